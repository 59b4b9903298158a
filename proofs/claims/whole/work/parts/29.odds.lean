theorem nI_mul (a b : Nat) : nI a * nI b = nI (a * b) := (Int32.ofNat_mul a b).symm
theorem nI_div {a b : Nat} (ha : a < 2 ^ 31) (hb : b < 2 ^ 31) : nI a / nI b = nI (a / b) := (Int32.ofNat_div ha hb).symm
theorem nI_subn {a b : Nat} (h : b ≤ a) (ha : a < 2 ^ 31) : nI a - nI b = nI (a - b) := by
  refine Int32.toInt_inj.mp ?_
  have h1 := Jvm.Kit.i32_sub (x := nI a) (y := nI b) (by rw [nI_toInt ha, nI_toInt (by omega)]; omega) (by rw [nI_toInt ha, nI_toInt (by omega)]; omega)
  rw [h1, nI_toInt ha, nI_toInt (by omega), nI_toInt (by omega)]
  omega
theorem rem_n {a b : Nat} (ha : a < 2 ^ 31) (hb : b < 2 ^ 31) : rem (nI a) (nI b) = nI (a % b) := by
  unfold rem
  rw [nI_div ha hb, nI_mul]
  have h1 : a / b * b ≤ a := Nat.div_mul_le_self a b
  rw [nI_subn h1 ha]
  congr 1
  have := Nat.mod_add_div a b
  have e : b * (a / b) = a / b * b := Nat.mul_comm _ _
  omega
theorem nI_le_iff {a b : Nat} (ha : a < 2 ^ 31) (hb : b < 2 ^ 31) : nI a ≤ nI b ↔ a ≤ b := by
  rw [Int32.le_iff_toInt_le, nI_toInt ha, nI_toInt hb]
  omega
theorem nI_lt_iff {a b : Nat} (ha : a < 2 ^ 31) (hb : b < 2 ^ 31) : nI a < nI b ↔ a < b := by
  rw [Int32.lt_iff_toInt_lt, nI_toInt ha, nI_toInt hb]
  omega
theorem wx_power {M : Mem} {Q : Option Value → Mem → Prop} {b n : Nat} (hn : n < 100) (hQ : Q (some (.int (nI (b ^ n)))) M) : WX mi_C_power 1 Q 0 [some (.int (nI b)), some (.int (nI n)), none, none] [] M := by
  refine sg_C_power_0 M _ _ ?_
  have loop : ∀ i, i ≤ n → WX mi_C_power 1 Q 4 [some (.int (nI b)), some (.int (nI n)), some (.int (nI (b ^ i))), some (.int (nI i))] [] M := by
    refine downN n ?_ (fun i hi ih => ?_)
    · exact sg_C_power_4 M _ _ _ _ (fun _ => hQ) (fun c => absurd (Int32.le_refl _) c)
    · refine sg_C_power_4 M _ _ _ _ (fun c => absurd ((nI_le_iff (by omega) (by omega)).mp c) (by omega)) (fun _ => ?_)
      rw [nI_mul, ← Nat.pow_succ, nI_1]
      exact ih
  exact loop 0 (Nat.zero_le _)
theorem chN_le : ∀ n, n < 7 → ∀ i, i < 7 → chN n i ≤ 20 := by decide +kernel
theorem wx_choices {M : Mem} {Q : Option Value → Mem → Prop} {n k : Nat} (hn : n < 7) (hk : k ≤ n) (hQ : Q (some (.int (nI (chN n k)))) M) : WX mi_C_choices 1 Q 0 [some (.int (nI n)), some (.int (nI k)), none, none] [] M := by
  refine sg_C_choices_0 M _ _ ?_
  have loop : ∀ i, i ≤ k → WX mi_C_choices 1 Q 4 [some (.int (nI n)), some (.int (nI k)), some (.int (nI (chN n i))), some (.int (nI i))] [] M := by
    refine downN k ?_ (fun i hi ih => ?_)
    · exact sg_C_choices_4 M _ _ _ _ (fun _ => hQ) (fun c => absurd (Int32.le_refl _) c) (fun c => absurd (Int32.le_refl _) c)
    · have hc := chN_le n hn i (by omega)
      have hm : chN n i * (n - i) ≤ 20 * 6 := Nat.mul_le_mul hc (by omega)
      refine sg_C_choices_4 M _ _ _ _ (fun c => absurd ((nI_le_iff (by omega) (by omega)).mp c) (by omega)) (fun _ => ?_) (fun _ => ?_)
      · rw [nI_1]
        intro q
        have := (nI_is0 (by omega)).mp q
        omega
      · rw [nI_1, nI_subn (by omega) (by omega), nI_mul, nI_div (by omega) (by omega)]
        exact ih
  exact loop 0 (Nat.zero_le _)
theorem wx_gcd {M : Mem} {Q : Option Value → Mem → Prop} {x y : Int32} : ∀ f, f ≤ 64 → ∀ a b, a < 2 ^ 31 → b < 2 ^ 31 → Q (some (.int (nI (gN f a b)))) M → WX mi_C_commonDivisor 1 Q 7 [some (.int x), some (.int y), some (.int (nI a)), some (.int (nI b)), some (.int (nI (64 - f))), none] [] M := by
  intro f
  induction f with
  | zero =>
    intro _ a b _ _ hQ
    exact sg_C_commonDivisor_7 M _ _ _ _ _ (fun _ => hQ) (fun c => absurd (by decide) c) (fun c => absurd (by decide) c) (fun c => absurd (by decide) c)
  | succ f ih =>
    intro hf a b ha hb hQ
    have hlt : ¬ (64 : Int32) ≤ nI (64 - (f + 1)) := Int32.not_le.mpr (nI_lt (b := 64) (by omega) (by decide))
    refine sg_C_commonDivisor_7 M _ _ _ _ _ (fun c => absurd c hlt) (fun _ c => ?_) (fun _ c => c) (fun _ c => ?_)
    · have hb0 := (nI_is0 hb).mp c
      rw [show gN (f + 1) a b = a by show (if b = 0 then a else gN f b (a % b)) = a; rw [if_pos hb0]] at hQ
      exact hQ
    · have hb0 : ¬ b = 0 := fun q => c ((nI_is0 hb).mpr q)
      rw [show gN (f + 1) a b = gN f b (a % b) by show (if b = 0 then a else gN f b (a % b)) = _; rw [if_neg hb0]] at hQ
      rw [rem_n ha hb, nI_1, show 64 - (f + 1) + 1 = 64 - f by omega]
      exact ih (by omega) b (a % b) hb (by have := Nat.mod_le a b; omega) hQ
theorem wx_gcdM {M : Mem} {Q : Option Value → Mem → Prop} {x1 x2 x3 x4 : Int32} {u v : Nat} (hu : u < 2 ^ 31) (hv : v < 2 ^ 31) : ∀ f a b, a < 2 ^ 31 → b < 2 ^ 31 → fiN f a b = true → 0 < gN f a b → gN f a b < 2 ^ 31 → (∀ g, g = gN f a b → x4 = 0 → Q (some (.int (nI (u / g)))) M) → (∀ g, g = gN f a b → ¬ x4 = 0 → Q (some (.int (nI (v / g)))) M) → WX mi_M_odds 2 Q 157 [some (.ref 37), some (.int x1), some (.int x2), some (.int x3), some (.int x4), some (.int (nI u)), some (.int (nI v)), some (.int (nI a)), some (.int (nI b)), none] [] M := by
  intro f
  induction f with
  | zero =>
    intro a b ha hb hfi hg hg2 h1 h2
    have hb0 : b = 0 := Nat.eq_of_beq_eq_true hfi
    have na : ¬ nI a = 0 := fun q => by
      have := (nI_is0 ha).mp q
      have hg : 0 < a := hg
      omega
    subst hb0
    refine sg_M_odds_37_157 M _ _ _ _ _ _ _ _ (fun _ _ => na) (fun _ c => ?_) (fun _ _ => na) (fun _ c => ?_) (fun c => absurd rfl c) (fun c => absurd rfl c)
    · rw [nI_div hv ha]; exact h2 a rfl c
    · rw [nI_div hu ha]; exact h1 a rfl c
  | succ f ih =>
    intro a b ha hb hfi hg hg2 h1 h2
    by_cases hb0 : b = 0
    · have e : gN (f + 1) a b = a := by show (if b = 0 then a else gN f b (a % b)) = a; rw [if_pos hb0]
      rw [e] at hg
      have na : ¬ nI a = 0 := fun q => by
        have := (nI_is0 ha).mp q
        omega
      refine sg_M_odds_37_157 M _ _ _ _ _ _ _ _ (fun _ _ => na) (fun _ c => ?_) (fun _ _ => na) (fun _ c => ?_) (fun c => absurd ((nI_is0 hb).mpr hb0) c) (fun c => absurd ((nI_is0 hb).mpr hb0) c)
      · rw [nI_div hv ha]; exact h2 a e.symm c
      · rw [nI_div hu ha]; exact h1 a e.symm c
    · have e : gN (f + 1) a b = gN f b (a % b) := by show (if b = 0 then a else gN f b (a % b)) = _; rw [if_neg hb0]
      have e2 : fiN (f + 1) a b = fiN f b (a % b) := by show (if b = 0 then true else fiN f b (a % b)) = _; rw [if_neg hb0]
      rw [e] at hg hg2 h1 h2
      rw [e2] at hfi
      have nb : ¬ nI b = 0 := fun q => hb0 ((nI_is0 hb).mp q)
      refine sg_M_odds_37_157 M _ _ _ _ _ _ _ _ (fun c => absurd c nb) (fun c => absurd c nb) (fun c => absurd c nb) (fun c => absurd c nb) (fun c => c) (fun _ => ?_)
      rw [rem_n ha hb]
      exact ih b (a % b) hb (by have := Nat.mod_le a b; omega) hfi hg hg2 h1 h2
theorem pp_le (s : Nat) : ∀ i, pp s i ≤ i
  | 0 => Nat.le_refl 0
  | i + 1 => by
    have := pp_le s i
    show pp s i + (if s.testBit i = true then 1 else 0) ≤ i + 1
    split <;> omega
theorem bitn (s : Nat) {i : Nat} (hi : i < 32) : (shr (nI s) (nI i)) &&& 1 = bI (s.testBit i) := by rw [bit_at hi, bt_nI s hi]
theorem wx_manyOf {M : Mem} {Q : Option Value → Mem → Prop} {s : Nat} (hQ : Q (some (.int (nI (pp s 16)))) M) : WX mi_M_manyOf 1 Q 0 [some (.int (nI s)), none, none] [] M := by
  refine sg_M_manyOf_0 M _ ?_
  have loop : ∀ i, i ≤ 16 → WX mi_M_manyOf 1 Q 4 [some (.int (nI s)), some (.int (nI (pp s i))), some (.int (nI i))] [] M := by
    refine downN 16 ?_ (fun i hi ih => ?_)
    · exact sg_M_manyOf_4 M _ _ _ (fun _ => hQ) (fun c => absurd ge16 c)
    · refine sg_M_manyOf_4 M _ _ _ (fun c => absurd c (lt16 hi)) (fun _ => ?_)
      rw [bitn s (by omega), nI_1]
      have e : nI (pp s i) + bI (s.testBit i) = nI (pp s (i + 1)) := by
        show _ = nI (pp s i + (if s.testBit i = true then 1 else 0))
        cases s.testBit i with
        | true => rw [if_pos rfl]; exact nI_1 _
        | false => rw [if_neg (by decide)]; exact Int32.add_zero _
      rw [e]
      exact ih
  exact loop 0 (by decide)
theorem ten_sub : ∀ x, x < 11 → (10 : Int32) - nI x = nI (10 - x) := by decide +kernel
theorem shl_two : ∀ n, n < 7 → shl 1 (nI n) = nI (2 ^ n) := by decide +kernel
theorem a_odds (y0 y1 y2 y3 : Int32) : Agr Inv mi_C_odds mi_M_odds 2 2 [.int y0, .int y1, .int y2, .int y3] := by
  refine agr_ans (fun i s M hw hc hm => ?_)
  have inn : ∀ (x b : Int32), ¬ z_M_in x 0 b = 0 ↔ (0 ≤ x ∧ x ≤ b) := fun x b => by rw [in_bI, bI_0]; simp
  by_cases hb : (0 ≤ y0 ∧ y0 ≤ 10) ∧ (0 ≤ y1 ∧ y1 ≤ 6) ∧ (0 ≤ y2 ∧ y2 ≤ 6) ∧ (0 ≤ y3 ∧ y3 ≤ 1)
  · obtain ⟨h0, h1, h2, h3⟩ := hb
    have m0 := (inn y0 10).mpr h0
    have m1 := (inn y1 6).mpr h1
    have m2 := (inn y2 6).mpr h2
    have m3 := (inn y3 1).mpr h3
    obtain ⟨x, hx, rfl⟩ := nI_of2 (n := 10) (by decide) (Int32.not_lt.mpr h0.1) h0.2
    obtain ⟨n, hn, rfl⟩ := nI_of2 (n := 6) (by decide) (Int32.not_lt.mpr h1.1) h1.2
    obtain ⟨k, hk, rfl⟩ := nI_of2 (n := 6) (by decide) (Int32.not_lt.mpr h2.1) h2.2
    have hok := odd_all x (by omega) n (by omega) k (by omega)
    unfold oddOk at hok
    simp only [Bool.and_eq_true] at hok
    obtain ⟨q1, q2, q3, q4, q5, q6⟩ := hok
    have q1 := Nat.eq_of_beq_eq_true q1
    have q2 := Nat.le_of_ble_eq_true q2
    have q4 := Nat.le_of_ble_eq_true q4
    have q5 := Nat.eq_of_beq_eq_true q5
    have q6 := Nat.le_of_ble_eq_true q6
    have hall : 10 ^ n ≤ 10 ^ 6 := Nat.pow_le_pow_right (by decide) hn
    refine ⟨if y3 = 0 then nI (sC x n (n + 1 - k) k 0 / gN 64 (10 ^ n) (sC x n (n + 1 - k) k 0)) else nI (10 ^ n / gN 64 (10 ^ n) (sC x n (n + 1 - k) k 0)), fun Q hQ => ?_, fun M1 Q hm1 hQ => ?_⟩
    · have hd := hQ M (fun _ _ _ => rfl) (fun _ _ => rfl) rfl
      refine sg_C_odds_0_0 M _ _ _ _ (fun c => absurd c (Int32.not_lt.mpr h0.1)) (fun _ c => absurd c (Int32.not_lt.mpr h0.2)) (fun _ _ c => absurd c (Int32.not_lt.mpr h1.1)) (fun _ _ _ c => absurd c (Int32.not_lt.mpr h1.2)) (fun _ _ _ _ c => absurd c (Int32.not_lt.mpr h2.1)) (fun _ _ _ _ _ c => absurd c (Int32.not_lt.mpr h2.2)) (fun _ _ _ _ _ _ c => absurd c (Int32.not_lt.mpr h3.1)) (fun _ _ _ _ _ _ _ _ => ?_) (fun _ _ _ _ _ _ _ c => absurd h3.2 c)
      refine wx_power (b := 10) (n := n) (by omega) ?_
      refine sg_C_odds_0_49 M _ _ _ _ _ ?_
      have loop : ∀ f w acc, f = n + 1 - w → sC x n f w acc = sC x n (n + 1 - k) k 0 → w ≤ 7 → WX mi_C_odds 2 Q 57 [some (.ref 0), some (.int (nI x)), some (.int (nI n)), some (.int (nI k)), some (.int y3), some (.int (nI (10 ^ n))), some (.int (nI acc)), some (.int (nI w))] [] M := by
        intro f
        induction f with
        | zero =>
          intro w acc hf hs hw7
          refine sg_C_odds_0_57 M _ _ _ _ _ _ _ (fun _ => ?_) (fun c => absurd ((nI_lt_iff (by omega) (by omega)).mpr (by omega)) c)
          have hs : acc = sC x n (n + 1 - k) k 0 := hs
          refine sg_C_commonDivisor_0 M _ _ ?_
          refine wx_gcd (f := 64) (by decide) _ _ (by omega) (by omega) ?_
          have eg : nI (gN 64 (10 ^ n) acc) = nI (gN 64 (10 ^ n) (sC x n (n + 1 - k) k 0)) := by rw [hs]
          rw [eg]
          have b64 : gN 64 (10 ^ n) (sC x n (n + 1 - k) k 0) ≤ 1000000 := by rw [q5]; exact q6
          have np : 0 < nI (gN 64 (10 ^ n) (sC x n (n + 1 - k) k 0)) := by
            rw [Int32.lt_iff_toInt_lt, nI_toInt (by omega), show (0 : Int32).toInt = 0 from rfl]
            omega
          have n0 : ¬ nI (gN 64 (10 ^ n) (sC x n (n + 1 - k) k 0)) = 0 := fun q => by
            have := (nI_is0 (by omega)).mp q
            omega
          refine sg_C_odds_0_106 M _ _ _ _ _ _ _ _ (fun _ _ => n0) (fun _ c => ?_) (fun _ _ => n0) (fun _ c => ?_) (fun c => absurd np c)
          · rw [nI_div (by omega) (by omega)]
            rw [if_neg c] at hd
            exact hd
          · rw [nI_div (by omega) (by omega), hs]
            rw [if_pos c] at hd
            exact hd
        | succ f ih =>
          intro w acc hf hs hw7
          refine sg_C_odds_0_57 M _ _ _ _ _ _ _ (fun c => absurd ((nI_lt_iff (by omega) (by omega)).mp c) (by omega)) (fun _ => ?_)
          refine wx_choices (by omega) (by omega) ?_
          refine sg_C_odds_0_71 M _ _ _ _ _ _ _ _ _ ?_
          rw [ten_sub x (by omega)]
          refine wx_power (by omega) ?_
          refine sg_C_odds_0_80 M _ _ _ _ _ _ _ _ _ _ ?_
          rw [nI_subn (by omega) (by omega), nI_mul]
          refine wx_power (by omega) ?_
          refine sg_C_odds_0_89 M _ _ _ _ _ _ _ _ _ _ ?_
          rw [nI_mul, nI_add, nI_1]
          exact ih (w + 1) _ (by omega) hs (by omega)
      exact loop (n + 1 - k) k 0 rfl rfl (by omega)
    · have hd := hQ M1 hm1 (FrM.refl M1)
      refine sg_M_odds_37_0 M1 _ _ _ _ (fun c => absurd c m0) (fun _ c => absurd c m1) (fun _ _ c => absurd c m2) (fun _ _ _ _ => ?_) (fun _ _ _ c => absurd c m3)
      have down : ∀ i, i ≤ n → WX mi_M_odds 2 Q 130 [some (.ref 37), some (.int (nI x)), some (.int (nI n)), some (.int (nI k)), some (.int y3), some (.int (nI (sC x n (n + 1 - k) k 0))), some (.int (nI (10 ^ i))), some (.int (nI i)), none, none] [] M1 := by
        refine downN n ?_ (fun i hi ih => ?_)
        · refine sg_M_odds_37_130 M1 _ _ _ _ _ _ _ (fun _ => ?_) (fun c => absurd (Int32.le_refl _) c)
          rw [q5] at q4 hd
          refine wx_gcdM (by omega) (by omega) 40 _ _ (by omega) (by omega) q3 (by omega) (by omega) (fun g hg c => ?_) (fun g hg c => ?_)
          · rw [if_pos c] at hd; rw [hg]; exact hd
          · rw [if_neg c] at hd; rw [hg]; exact hd
        · refine sg_M_odds_37_130 M1 _ _ _ _ _ _ _ (fun c => absurd ((nI_le_iff (by omega) (by omega)).mp c) (by omega)) (fun _ => ?_)
          rw [show (10 : Int32) = nI 10 from rfl, nI_mul, ← Nat.pow_succ, nI_1]
          exact ih
      have h2n : 2 ^ n ≤ 2 ^ 6 := Nat.pow_le_pow_right (by decide) hn
      have loop : ∀ f t acc, f = 2 ^ n - t → sM x n k f t acc = sC x n (n + 1 - k) k 0 → t ≤ 2 ^ n → WX mi_M_odds 2 Q 51 [some (.ref 37), some (.int (nI x)), some (.int (nI n)), some (.int (nI k)), some (.int y3), some (.int (nI acc)), some (.int 1), some (.int (nI t)), none, none] [] M1 := by
        intro f
        induction f with
        | zero =>
          intro t acc hf hs ht
          refine sg_M_odds_37_51 M1 _ _ _ _ _ _ _ (fun _ => ?_) (fun c => absurd (by rw [shl_two n (by omega)]; exact (nI_le_iff (by omega) (by omega)).mpr (by omega)) c)
          have hs : acc = sC x n (n + 1 - k) k 0 := hs
          rw [hs]
          exact down 0 (Nat.zero_le _)
        | succ f ih =>
          intro t acc hf hs ht
          refine sg_M_odds_37_51 M1 _ _ _ _ _ _ _ (fun c => absurd (by rw [shl_two n (by omega)] at c; exact (nI_le_iff (by omega) (by omega)).mp c) (by omega)) (fun _ => ?_)
          refine wx_manyOf ?_
          have p16 := pp_le t 16
          have inner : ∀ i, i ≤ n → WX mi_M_odds 2 Q 78 [some (.ref 37), some (.int (nI x)), some (.int (nI n)), some (.int (nI k)), some (.int y3), some (.int (nI acc)), some (.int 1), some (.int (nI t)), some (.int (nI (prd x k t i))), some (.int (nI i))] [] M1 := by
            refine downN n ?_ (fun i hi ih2 => ?_)
            · refine sg_M_odds_37_78 M1 _ _ _ _ _ _ _ _ _ (fun _ => ?_) (fun c => absurd (Int32.le_refl _) c) (fun c => absurd (Int32.le_refl _) c)
              rw [nI_add, nI_1]
              exact ih (t + 1) _ (by omega) hs (by omega)
            · have hlt : ¬ nI n ≤ nI i := fun c => by
                have := (nI_le_iff (by omega) (by omega)).mp c
                omega
              refine sg_M_odds_37_78 M1 _ _ _ _ _ _ _ _ _ (fun c => absurd c hlt) (fun _ c => ?_) (fun _ c => ?_)
              · rw [bitn t (by omega), bI_1] at c
                rw [nI_mul, nI_1]
                have := ih2
                rw [show prd x k t (i + 1) = prd x k t i * x by show prd x k t i * (if t.testBit i = true then 10 - x else x) = _; rw [if_neg c]] at this
                exact this
              · rw [bitn t (by omega), bI_1] at c
                rw [ten_sub x (by omega), nI_mul, nI_1]
                have := ih2
                rw [show prd x k t (i + 1) = prd x k t i * (10 - x) by show prd x k t i * (if t.testBit i = true then 10 - x else x) = _; rw [if_pos c]] at this
                exact this
          have i0 := inner 0 (Nat.zero_le _)
          refine sg_M_odds_37_64 M1 _ _ _ _ _ _ _ _ (fun c => ?_) (fun c => ?_)
          · have c' := (nI_lt_iff (by omega) (by omega)).mp c
            rw [show prd x k t 0 = 0 by show (if pp t 16 < k then 0 else 1) = 0; rw [if_pos c']] at i0
            exact i0
          · have c' : ¬ pp t 16 < k := fun q => c ((nI_lt_iff (by omega) (by omega)).mpr q)
            rw [show prd x k t 0 = 1 by show (if pp t 16 < k then 0 else 1) = 1; rw [if_neg c']] at i0
            exact i0
      exact loop (2 ^ n) 0 0 rfl q1.symm (Nat.zero_le _)
  · refine ⟨-1, fun Q hQ => ?_, fun M1 Q hm1 hQ => ?_⟩
    · have hd := hQ M (fun _ _ _ => rfl) (fun _ _ => rfl) rfl
      exact sg_C_odds_0_0 M _ _ _ _ (fun _ => hd) (fun _ _ => hd) (fun _ _ _ => hd) (fun _ _ _ _ => hd) (fun _ _ _ _ _ => hd) (fun _ _ _ _ _ _ => hd) (fun _ _ _ _ _ _ _ => hd) (fun c0 c1 c2 c3 c4 c5 c6 c7 => absurd ⟨⟨Int32.not_lt.mp c0, Int32.not_lt.mp c1⟩, ⟨Int32.not_lt.mp c2, Int32.not_lt.mp c3⟩, ⟨Int32.not_lt.mp c4, Int32.not_lt.mp c5⟩, ⟨Int32.not_lt.mp c6, c7⟩⟩ hb) (fun _ _ _ _ _ _ _ _ => hd)
    · have hd := hQ M1 hm1 (FrM.refl M1)
      exact sg_M_odds_37_0 M1 _ _ _ _ (fun _ => hd) (fun _ _ => hd) (fun _ _ _ => hd) (fun c0 c1 c2 c3 => absurd ⟨(inn _ _).mp c0, (inn _ _).mp c1, (inn _ _).mp c2, (inn _ _).mp c3⟩ hb) (fun _ _ _ _ => hd)
