/-! ===== cells by x and y; the small calls ===== -/
theorem in_bI (x a b : Int32) : z_M_in x a b = bI (decide (a ≤ x) && decide (x ≤ b)) := by
  unfold z_M_in
  by_cases h1 : x < a
  · rw [if_pos h1]
    have : ¬ a ≤ x := Int32.not_le.mpr h1
    simp [this, bI]
  · rw [if_neg h1]
    have h1' := Int32.not_lt.mp h1
    by_cases h2 : b < x
    · rw [if_pos h2]
      have : ¬ x ≤ b := Int32.not_le.mpr h2
      simp [this, bI]
    · rw [if_neg h2]
      have h2' := Int32.not_lt.mp h2
      simp [h1', h2', bI]
theorem i32_of_toInt {x : Int32} {n : Nat} (h : x.toInt = n) (hn : n < 2 ^ 31) : x = nI n := Int32.toInt_inj.mp (by rw [h, nI_toInt hn])
/-- there is such a cell -/
def okc (p : Pl) (x y : Int32) : Bool := (decide (0 ≤ x.toInt) && decide (x.toInt < (pW p : Int))) && (decide (0 ≤ y.toInt) && decide (y.toInt < (pR p : Int)))
theorem okc_cell {p : Pl} {x y : Int32} (hp : WfP p) (h : okc p x y = true) : ∃ k, k < 16 ∧ x = nI (k % 4) ∧ y = nI (k / 4) ∧ thr p k = true := by
  unfold okc at h
  simp only [Bool.and_eq_true, decide_eq_true_eq] at h
  obtain ⟨⟨h1, h2⟩, h3, h4⟩ := h
  have hw := hp.1
  have hr := hp.2.1
  have e1 : x.toInt = ((x.toInt.toNat : Nat) : Int) := by omega
  have e2 : y.toInt = ((y.toInt.toNat : Nat) : Int) := by omega
  refine ⟨4 * y.toInt.toNat + x.toInt.toNat, by omega, ?_, ?_, ?_⟩
  · rw [show (4 * y.toInt.toNat + x.toInt.toNat) % 4 = x.toInt.toNat by omega]
    exact i32_of_toInt e1 (by omega)
  · rw [show (4 * y.toInt.toNat + x.toInt.toNat) / 4 = y.toInt.toNat by omega]
    exact i32_of_toInt e2 (by omega)
  · unfold thr
    simp only [Bool.and_eq_true, decide_eq_true_eq]
    omega
theorem okc_thr {p : Pl} {k : Nat} (hk : k < 16) : okc p (nI (k % 4)) (nI (k / 4)) = thr p k := by
  unfold okc thr
  rw [nI_toInt (by omega), nI_toInt (by omega)]
  have e1 : decide (0 ≤ ((k % 4 : Nat) : Int)) = true := decide_eq_true (by omega)
  have e2 : decide (0 ≤ ((k / 4 : Nat) : Int)) = true := decide_eq_true (by omega)
  rw [e1, e2, Bool.true_and, Bool.true_and]
  congr 1 <;> exact decide_eq_decide.mpr (by omega)
theorem numOf : ∀ k, k < 16 → z_C_numberOf (nI (k % 4)) (nI (k / 4)) = nI k := by decide +kernel
theorem numOf' {k : Nat} (hk : k < 16) : (4 * nI (k / 4)) + nI (k % 4) = nI k := numOf k hk
theorem remOf : ∀ k, k < 16 → rem (nI k) 4 = nI (k % 4) := by decide +kernel
theorem divOf : ∀ k, k < 16 → nI k / 4 = nI (k / 4) := by decide +kernel
theorem has_C {p : Pl} {M : Mem} {x y : Int32} (hp : WfP p) (h : RCp p M) : z_L_has_6 M x y = bI (okc p x y) := by
  unfold z_L_has_6
  rw [h.1, h.2.1]
  have hw := hp.1
  have hr := hp.2.1
  have e1 : x < 0 ↔ x.toInt < 0 := Int32.lt_iff_toInt_lt
  have e2 : y < 0 ↔ y.toInt < 0 := Int32.lt_iff_toInt_lt
  have e3 : nI (pW p) ≤ x ↔ (pW p : Int) ≤ x.toInt := by rw [Int32.le_iff_toInt_le, nI_toInt (by omega)]
  have e4 : nI (pR p) ≤ y ↔ (pR p : Int) ≤ y.toInt := by rw [Int32.le_iff_toInt_le, nI_toInt (by omega)]
  unfold okc
  by_cases h1 : x < 0
  · rw [if_pos h1]
    have : ¬ 0 ≤ x.toInt := by have := e1.mp h1; omega
    simp [this, bI]
  · rw [if_neg h1]
    have h1' : 0 ≤ x.toInt := by have := mt e1.mpr h1; omega
    by_cases h2 : nI (pW p) ≤ x
    · rw [if_pos h2]
      have : ¬ x.toInt < (pW p : Int) := by have := e3.mp h2; omega
      simp [this, bI]
    · rw [if_neg h2]
      have h2' : x.toInt < (pW p : Int) := by have := mt e3.mpr h2; omega
      by_cases h3 : y < 0
      · rw [if_pos h3]
        have : ¬ 0 ≤ y.toInt := by have := e2.mp h3; omega
        simp [this, bI]
      · rw [if_neg h3]
        have h3' : 0 ≤ y.toInt := by have := mt e2.mpr h3; omega
        by_cases h4 : nI (pR p) ≤ y
        · rw [if_pos h4]
          have : ¬ y.toInt < (pR p : Int) := by have := e4.mp h4; omega
          simp [this, bI]
        · rw [if_neg h4]
          have h4' : y.toInt < (pR p : Int) := by have := mt e4.mpr h4; omega
          simp [h1', h2', h3', h4', bI]
theorem le_m1 {n : Nat} (hn : n ≤ 4) (x : Int32) : x ≤ nI n - 1 ↔ x.toInt < (n : Int) := by
  rw [Int32.le_iff_toInt_le]
  have : (nI n - 1).toInt = (n : Int) - 1 := by
    have : n = 0 ∨ n = 1 ∨ n = 2 ∨ n = 3 ∨ n = 4 := by omega
    rcases this with rfl | rfl | rfl | rfl | rfl <;> decide
  rw [this]
  omega
theorem isCell_M {p : Pl} {M : Mem} (hp : WfP p) (h : RMp p M) (x y : Int32) : z_M_isCell_37 M x y = bI (okc p x y) := by
  unfold z_M_isCell_37
  rw [h.1, h.2.1, in_bI, in_bI]
  unfold okc
  have e1 : decide (x ≤ nI (pW p) - 1) = decide (x.toInt < (pW p : Int)) := decide_eq_decide.mpr (le_m1 hp.1 x)
  have e2 : decide (y ≤ nI (pR p) - 1) = decide (y.toInt < (pR p : Int)) := decide_eq_decide.mpr (le_m1 hp.2.1 y)
  have e3 : decide ((0 : Int32) ≤ x) = decide (0 ≤ x.toInt) := decide_eq_decide.mpr (by rw [Int32.le_iff_toInt_le]; exact Iff.rfl)
  have e4 : decide ((0 : Int32) ≤ y) = decide (0 ≤ y.toInt) := decide_eq_decide.mpr (by rw [Int32.le_iff_toInt_le]; exact Iff.rfl)
  rw [e1, e2, e3, e4]
  cases (decide (0 ≤ x.toInt) && decide (x.toInt < (pW p : Int))) <;> cases (decide (0 ≤ y.toInt) && decide (y.toInt < (pR p : Int))) <;> decide
theorem isThere_M {p : Pl} {M : Mem} (hp : WfP p) (h : RMp p M) {k : Nat} (hk : k < 16) : z_M_isThere_37 M (nI k) = bI (thr p k) := by
  unfold z_M_isThere_37
  rw [remOf k hk, divOf k hk, isCell_M hp h, okc_thr hk]
theorem bI_eq1 (b : Bool) : (if bI b = 1 then (1 : Int32) else 0) = bI b := by cases b <;> decide
theorem isLid_M {p : Pl} {M : Mem} (h : RMp p M) {k : Nat} (hk : k < 16) : z_M_isLid_37 M (nI k) = bI (pL p k) := by
  unfold z_M_isLid_37
  rw [h.2.2.2.1, bit_at (by omega), bt_sI _ (by omega), bI_eq1]
  simp [hk]
theorem isDrain_M {p : Pl} {M : Mem} (h : RMp p M) {k : Nat} (hk : k < 16) : z_M_isDrain_37 M (nI k) = bI (pD p k) := by
  unfold z_M_isDrain_37
  rw [h.2.2.2.2, bit_at (by omega), bt_sI _ (by omega), bI_eq1]
  simp [hk]
theorem isDry_M {p : Pl} {M : Mem} (hp : WfP p) (h : RMp p M) {k : Nat} (hk : k < 16) : z_M_isDry_37 M (nI k) = bI (thr p k && !pL p k) := by
  unfold z_M_isDry_37
  rw [isThere_M hp h hk, isLid_M h hk]
  cases thr p k <;> cases pL p k <;> decide
/-- there, and no lid -/
def okd (p : Pl) (x y : Int32) : Bool := okc p x y && !pL p (x.toInt + 4 * y.toInt).toNat
theorem okd_k {p : Pl} {k : Nat} (hk : k < 16) : okd p (nI (k % 4)) (nI (k / 4)) = (thr p k && !pL p k) := by
  unfold okd
  rw [okc_thr hk, nI_toInt (by omega), nI_toInt (by omega), show (((k % 4 : Nat) : Int) + 4 * ((k / 4 : Nat) : Int)).toNat = k by omega]
theorem isDryAt_M {p : Pl} {M : Mem} (hp : WfP p) (h : RMp p M) (x y : Int32) : z_M_isDryAt_37 M x y = bI (okd p x y) := by
  unfold z_M_isDryAt_37
  rw [isCell_M hp h]
  cases ho : okc p x y with
  | false => rw [if_pos (by decide)]; unfold okd; rw [ho]; rfl
  | true =>
    obtain ⟨k, hk, rfl, rfl, ht⟩ := okc_cell hp ho
    rw [if_neg (by decide), numOf' hk, isLid_M h hk, okd_k hk, ht]
    cases pL p k <;> decide
theorem isOpen_C {p : Pl} {M : Mem} (hp : WfP p) (h : RCp p M) (x y : Int32) : z_L_isOpen_6 M x y = bI (okd p x y) := by
  unfold z_L_isOpen_6
  rw [has_C hp h]
  cases ho : okc p x y with
  | false => rw [if_pos (by decide)]; unfold okd; rw [ho]; rfl
  | true =>
    obtain ⟨k, hk, rfl, rfl, ht⟩ := okc_cell hp ho
    rw [if_neg (by decide), numOf k hk, h.2.2.2.1, holds_sI hk, okd_k hk, ht]
    cases pL p k <;> decide
theorem okd_cell {p : Pl} {x y : Int32} (hp : WfP p) (h : okd p x y = true) : ∃ k, k < 16 ∧ x = nI (k % 4) ∧ y = nI (k / 4) ∧ thr p k = true ∧ pL p k = false := by
  have h0 := h
  unfold okd at h
  simp only [Bool.and_eq_true] at h
  obtain ⟨k, hk, rfl, rfl, ht⟩ := okc_cell hp h.1
  rw [okd_k hk, ht] at h0
  exact ⟨k, hk, rfl, rfl, ht, by simpa using h0⟩
/-! the small calls -/
theorem a_clear : Agr Inv mi_C_clear mi_M_clear 1 1 [] := by
  refine agr_of (fun i s M hw hc hm => ?_)
  obtain ⟨t, p, gh, im, sn, tr⟩ := s
  refine ⟨nI t.length, ([], p, gh, im, sn, tr), ?_, fun Q hQ => ?_, fun M1 Q hm1 hQ => ?_⟩
  · have := hw.up (show 20 + i ≤ 20 + (i + 1) by omega)
    exact ⟨⟨Nat.zero_le _, fun _ h => absurd h List.not_mem_nil⟩, this.2⟩
  · refine sg_C_clear_0_0 M ?_
    rw [hc.1.1]
    refine hQ _ ⟨⟨by simp [wr, nI_0], fun j c h => by simp at h⟩, ?_⟩ ((FrC.refl M).wr (by decide))
    have := hc.2
    simpa [RCp, RCg, RCi, RCs, wr] using this
  · refine sg_M_clear_37_0 M1 ?_
    rw [hm1.1.1]
    refine hQ _ ⟨⟨by simp [wr, nI_0], fun j c h => by simp at h⟩, ?_⟩ ((FrM.refl M1).wr (by decide) (by decide))
    have := hm1.2
    simpa [RMp, RMg, RMi, RMs, wr] using this
theorem a_trace : AgrL Inv mi_C_trace mi_M_trace 1 1 [] := by
  rintro i M - ⟨s, hw, hc, hm⟩ QC hk
  refine sg_C_trace_0_0 M ?_
  refine hk _ M ⟨rfl, rfl⟩ (fun QM hq => ?_)
  refine sg_M_trace_37_0 M ?_
  rw [hm.2.2.2.2.2, ← hc.2.2.2.2.2]
  exact hq M (Inv.up i M ⟨s, hw, hc, hm⟩) ⟨rfl, rfl⟩
theorem a_count (x : Int32) : Agr Inv mi_C_count mi_M_count 1 1 [.int x] := by
  rintro i M - ⟨s, hw, hc, hm⟩ QC hk
  refine wx_C_count_0 M x ?_
  refine hk _ M ⟨rfl, rfl⟩ (fun QM hq => ?_)
  refine wx_M_count_37 M x ?_
  have e : z_M_count_37 M x = z_C_count_0 M x := by
    unfold z_M_count_37 z_C_count_0
    rw [hm.2.1.1, hm.2.1.2.1, hm.2.1.2.2.1, hm.2.2.2.2.1.1, hm.2.2.1.2.1, hm.1.1, hc.2.1.1, hc.2.1.2.1, hc.2.1.2.2.1, hc.2.2.2.2.1.2, hc.2.2.1.2.2.2.2.2.1, hc.1.1]
  rw [e]
  exact hq M (Inv.up i M ⟨s, hw, hc, hm⟩) ⟨rfl, rfl⟩
theorem a_forget : Agr Inv mi_C_forget mi_M_forget 1 1 [] := by
  refine agr_of (fun i s M hw hc hm => ?_)
  obtain ⟨t, p, gh, im, sn, tr⟩ := s
  refine ⟨nI sn.length, (t, p, gh, im, [], tr), ?_, fun Q hQ => ?_, fun M1 Q hm1 hQ => ?_⟩
  · have := hw.up (show 20 + i ≤ 20 + (i + 1) by omega)
    exact ⟨this.1, this.2.1, this.2.2.1, this.2.2.2.1, this.2.2.2.2.1, Nat.zero_le _, fun _ h => absurd h List.not_mem_nil⟩
  · refine sg_C_forget_0_0 M ?_
    rw [hc.2.2.2.2.1.2]
    refine hQ _ ?_ (((FrC.refl M).wr (by decide)).wr (by decide))
    obtain ⟨h1, h2, h3, h4, h5, h6⟩ := hc
    refine ⟨?_, ?_, ?_, ?_, ⟨?_, ?_⟩, h6⟩
    · simpa [RCt, wr] using h1
    · simpa [RCp, wr] using h2
    · simpa [RCg, wr] using h3
    · simpa [RCi, RCg, wr] using h4
    · simp [wr, sI_none]
    · simp [wr, nI_0]
  · refine sg_M_forget_37_0 M1 ?_
    rw [hm1.2.2.2.2.1.1]
    refine hQ _ ?_ ((FrM.refl M1).wr (by decide) (by decide))
    obtain ⟨h1, h2, h3, h4, h5, h6⟩ := hm1
    refine ⟨?_, ?_, ?_, ?_, ⟨by simp [wr, nI_0], fun j c h => by simp at h⟩, h6⟩
    · simpa [RMt, wr] using h1
    · simpa [RMp, wr] using h2
    · simpa [RMg, wr] using h3
    · simpa [RMi, RMg, wr] using h4
