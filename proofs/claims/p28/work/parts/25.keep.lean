/-! ===== keep, back; printed by wip/gen/p25.py ===== -/
theorem wx_copy_16_9 {p : Pl} {gh : Gh} {M : Mem} {Q : Option Value → Mem → Prop} (h : RCg 9 p gh M) (hl : gh.2.length ≤ 10) (hQ : ∀ M', RCg 16 p gh M' → (∀ q, q < 16 ∨ 22 < q → M'.1 q = M.1 q) → M'.2 = M.2 → Q none M') : WX mi_G_copyFrom 1 Q 0 [some (.ref 16), some (.ref 9), none] [] M := by
  obtain ⟨c1, c2, c3, c4, c5, c6, c7⟩ := h
  refine sg_G_copyFrom_16_9_0 M ?_
  have loop3 : ∀ i, i ≤ 10 → ∀ M1 : Mem, (∀ j, j < i → M1.1 20 j = M.1 13 j ∧ M1.1 21 j = M.1 14 j ∧ M1.1 22 j = M.1 15 j) → (∀ j, j < 4 → M1.1 19 j = M.1 12 j) → (∀ j, j < 16 → M1.1 17 j = M.1 10 j ∧ M1.1 18 j = M.1 11 j) → (∀ q, q < 16 ∨ 22 < q → M1.1 q = M.1 q) → M1.2 = M.2 → WX mi_G_copyFrom 1 Q 65 [some (.ref 16), some (.ref 9), some (.int (nI i))] [] M1 := by
    refine downN 10 (fun M1 h1 h2 h3 h4 h5 => ?_) (fun i hi ih M1 h1 h2 h3 h4 h5 => ?_)
    · refine sg_G_copyFrom_16_9_65 M1 _ (fun _ => ?_) (fun c => absurd (by decide) c) (fun c => absurd (by decide) c)
      refine hQ _ ⟨fun k hk ht => ?_, fun u hu => ?_, fun z hz => ?_, ?_, ?_, ?_, fun j e he => ?_⟩ (fun q hq => by rw [wr_ne _ (by omega), wr_ne _ (by omega), wr_ne _ (by omega)]; exact h4 q hq) h5
      · rw [wr_ne _ (by decide), wr_ne _ (by decide), wr_ne _ (by decide)]; exact (h3 k hk).1.trans (c1 k hk ht)
      · rw [wr_ne _ (by decide), wr_ne _ (by decide), wr_ne _ (by decide)]; exact (h3 u hu).2.trans (c2 u hu)
      · rw [wr_ne _ (by decide), wr_ne _ (by decide), wr_ne _ (by decide)]; exact (h2 z hz).trans (c3 z hz)
      · simp only [wr]; simp [h4]; exact c4
      · simp only [wr]; simp [h4]; exact c5
      · simp only [wr]; simp [h4]; exact c6
      · have hj : j < gh.2.length := (List.getElem?_eq_some_iff.mp he).1
        rw [wr_ne _ (by decide), wr_ne _ (by decide), wr_ne _ (by decide), wr_ne _ (by decide), wr_ne _ (by decide), wr_ne _ (by decide), wr_ne _ (by decide), wr_ne _ (by decide), wr_ne _ (by decide)]
        have hh := h1 (gh.2.length - 1 - j) (by omega)
        have := c7 j e he
        exact ⟨hh.1.trans this.1, hh.2.1.trans this.2.1, hh.2.2.trans this.2.2⟩
    · refine sg_G_copyFrom_16_9_65 M1 _ (fun c => absurd c (Int32.not_le.mpr (nI_lt (b := 10) hi (by decide)))) (fun _ => vp_in_nI hi (by decide)) (fun _ => ?_)
      rw [nI_clamp (by omega), nI_1]
      refine ih _ (fun j hj => ?_) (fun j hj => by rw [wr_ne _ (by decide), wr_ne _ (by decide), wr_ne _ (by decide)]; exact h2 j hj) (fun j hj => by rw [wr_ne _ (by decide), wr_ne _ (by decide), wr_ne _ (by decide), wr_ne _ (by decide), wr_ne _ (by decide), wr_ne _ (by decide)]; exact h3 j hj) (fun q hq => by rw [wr_ne _ (by omega), wr_ne _ (by omega), wr_ne _ (by omega)]; exact h4 q hq) h5
      have f4 := congrFun (h4 13 (by decide)) i
      have f5 := congrFun (h4 14 (by decide)) i
      have f6 := congrFun (h4 15 (by decide)) i
      by_cases e : j = i
      · subst e; simp [wr, f4, f5, f6]
      · have := h1 j (by omega)
        simp [wr, e, this]
  have loop2 : ∀ i, i ≤ 4 → ∀ M1 : Mem, (∀ j, j < i → M1.1 19 j = M.1 12 j) → (∀ j, j < 16 → M1.1 17 j = M.1 10 j ∧ M1.1 18 j = M.1 11 j) → (∀ q, q < 16 ∨ 22 < q → M1.1 q = M.1 q) → M1.2 = M.2 → WX mi_G_copyFrom 1 Q 40 [some (.ref 16), some (.ref 9), some (.int (nI i))] [] M1 := by
    refine downN 4 (fun M1 h2 h3 h4 h5 => ?_) (fun i hi ih M1 h2 h3 h4 h5 => ?_)
    · exact sg_G_copyFrom_16_9_40 M1 _ (fun _ => loop3 0 (by decide) M1 (fun j hj => absurd hj (Nat.not_lt_zero j)) h2 h3 h4 h5) (fun c => absurd (by decide) c) (fun c => absurd (by decide) c)
    · refine sg_G_copyFrom_16_9_40 M1 _ (fun c => absurd c (Int32.not_le.mpr (nI_lt (b := 4) hi (by decide)))) (fun _ => vp_in_nI hi (by decide)) (fun _ => ?_)
      rw [nI_clamp (by omega), nI_1]
      refine ih _ (fun j hj => ?_) (fun j hj => by rw [wr_ne _ (by decide), wr_ne _ (by decide)]; exact h3 j hj) (fun q hq => by rw [wr_ne _ (by omega)]; exact h4 q hq) h5
      rw [upd_row, h4 12 (by decide)]
      by_cases e : j = i
      · rw [if_pos e, e]
      · rw [if_neg e]; exact h2 j (by omega)
  have loop1 : ∀ i, i ≤ 16 → ∀ M1 : Mem, (∀ j, j < i → M1.1 17 j = M.1 10 j ∧ M1.1 18 j = M.1 11 j) → (∀ q, q < 16 ∨ 22 < q → M1.1 q = M.1 q) → M1.2 = M.2 → WX mi_G_copyFrom 1 Q 2 [some (.ref 16), some (.ref 9), some (.int (nI i))] [] M1 := by
    refine downN 16 (fun M1 h3 h4 h5 => ?_) (fun i hi ih M1 h3 h4 h5 => ?_)
    · exact sg_G_copyFrom_16_9_2 M1 _ (fun _ => loop2 0 (by decide) M1 (fun j hj => absurd hj (Nat.not_lt_zero j)) h3 h4 h5) (fun c => absurd ge16 c) (fun c => absurd ge16 c)
    · refine sg_G_copyFrom_16_9_2 M1 _ (fun c => absurd c (lt16 hi)) (fun _ => vp_in_nI hi (by decide)) (fun _ => ?_)
      rw [nI_clamp (by omega), nI_1]
      refine ih _ (fun j hj => ?_) (fun q hq => by rw [wr_ne _ (by omega), wr_ne _ (by omega)]; exact h4 q hq) h5
      have f1 := congrFun (h4 10 (by decide)) i
      have f2 := congrFun (h4 11 (by decide)) i
      by_cases e : j = i
      · subst e; simp [wr, f1, f2]
      · have := h3 j (by omega)
        simp [wr, e, this]
  exact loop1 0 (by decide) M (fun j hj => absurd hj (Nat.not_lt_zero j)) (fun _ _ => rfl) rfl
theorem wx_copy_23_9 {p : Pl} {gh : Gh} {M : Mem} {Q : Option Value → Mem → Prop} (h : RCg 9 p gh M) (hl : gh.2.length ≤ 10) (hQ : ∀ M', RCg 23 p gh M' → (∀ q, q < 23 ∨ 29 < q → M'.1 q = M.1 q) → M'.2 = M.2 → Q none M') : WX mi_G_copyFrom 1 Q 0 [some (.ref 23), some (.ref 9), none] [] M := by
  obtain ⟨c1, c2, c3, c4, c5, c6, c7⟩ := h
  refine sg_G_copyFrom_23_9_0 M ?_
  have loop3 : ∀ i, i ≤ 10 → ∀ M1 : Mem, (∀ j, j < i → M1.1 27 j = M.1 13 j ∧ M1.1 28 j = M.1 14 j ∧ M1.1 29 j = M.1 15 j) → (∀ j, j < 4 → M1.1 26 j = M.1 12 j) → (∀ j, j < 16 → M1.1 24 j = M.1 10 j ∧ M1.1 25 j = M.1 11 j) → (∀ q, q < 23 ∨ 29 < q → M1.1 q = M.1 q) → M1.2 = M.2 → WX mi_G_copyFrom 1 Q 65 [some (.ref 23), some (.ref 9), some (.int (nI i))] [] M1 := by
    refine downN 10 (fun M1 h1 h2 h3 h4 h5 => ?_) (fun i hi ih M1 h1 h2 h3 h4 h5 => ?_)
    · refine sg_G_copyFrom_23_9_65 M1 _ (fun _ => ?_) (fun c => absurd (by decide) c) (fun c => absurd (by decide) c)
      refine hQ _ ⟨fun k hk ht => ?_, fun u hu => ?_, fun z hz => ?_, ?_, ?_, ?_, fun j e he => ?_⟩ (fun q hq => by rw [wr_ne _ (by omega), wr_ne _ (by omega), wr_ne _ (by omega)]; exact h4 q hq) h5
      · rw [wr_ne _ (by decide), wr_ne _ (by decide), wr_ne _ (by decide)]; exact (h3 k hk).1.trans (c1 k hk ht)
      · rw [wr_ne _ (by decide), wr_ne _ (by decide), wr_ne _ (by decide)]; exact (h3 u hu).2.trans (c2 u hu)
      · rw [wr_ne _ (by decide), wr_ne _ (by decide), wr_ne _ (by decide)]; exact (h2 z hz).trans (c3 z hz)
      · simp only [wr]; simp [h4]; exact c4
      · simp only [wr]; simp [h4]; exact c5
      · simp only [wr]; simp [h4]; exact c6
      · have hj : j < gh.2.length := (List.getElem?_eq_some_iff.mp he).1
        rw [wr_ne _ (by decide), wr_ne _ (by decide), wr_ne _ (by decide), wr_ne _ (by decide), wr_ne _ (by decide), wr_ne _ (by decide), wr_ne _ (by decide), wr_ne _ (by decide), wr_ne _ (by decide)]
        have hh := h1 (gh.2.length - 1 - j) (by omega)
        have := c7 j e he
        exact ⟨hh.1.trans this.1, hh.2.1.trans this.2.1, hh.2.2.trans this.2.2⟩
    · refine sg_G_copyFrom_23_9_65 M1 _ (fun c => absurd c (Int32.not_le.mpr (nI_lt (b := 10) hi (by decide)))) (fun _ => vp_in_nI hi (by decide)) (fun _ => ?_)
      rw [nI_clamp (by omega), nI_1]
      refine ih _ (fun j hj => ?_) (fun j hj => by rw [wr_ne _ (by decide), wr_ne _ (by decide), wr_ne _ (by decide)]; exact h2 j hj) (fun j hj => by rw [wr_ne _ (by decide), wr_ne _ (by decide), wr_ne _ (by decide), wr_ne _ (by decide), wr_ne _ (by decide), wr_ne _ (by decide)]; exact h3 j hj) (fun q hq => by rw [wr_ne _ (by omega), wr_ne _ (by omega), wr_ne _ (by omega)]; exact h4 q hq) h5
      have f4 := congrFun (h4 13 (by decide)) i
      have f5 := congrFun (h4 14 (by decide)) i
      have f6 := congrFun (h4 15 (by decide)) i
      by_cases e : j = i
      · subst e; simp [wr, f4, f5, f6]
      · have := h1 j (by omega)
        simp [wr, e, this]
  have loop2 : ∀ i, i ≤ 4 → ∀ M1 : Mem, (∀ j, j < i → M1.1 26 j = M.1 12 j) → (∀ j, j < 16 → M1.1 24 j = M.1 10 j ∧ M1.1 25 j = M.1 11 j) → (∀ q, q < 23 ∨ 29 < q → M1.1 q = M.1 q) → M1.2 = M.2 → WX mi_G_copyFrom 1 Q 40 [some (.ref 23), some (.ref 9), some (.int (nI i))] [] M1 := by
    refine downN 4 (fun M1 h2 h3 h4 h5 => ?_) (fun i hi ih M1 h2 h3 h4 h5 => ?_)
    · exact sg_G_copyFrom_23_9_40 M1 _ (fun _ => loop3 0 (by decide) M1 (fun j hj => absurd hj (Nat.not_lt_zero j)) h2 h3 h4 h5) (fun c => absurd (by decide) c) (fun c => absurd (by decide) c)
    · refine sg_G_copyFrom_23_9_40 M1 _ (fun c => absurd c (Int32.not_le.mpr (nI_lt (b := 4) hi (by decide)))) (fun _ => vp_in_nI hi (by decide)) (fun _ => ?_)
      rw [nI_clamp (by omega), nI_1]
      refine ih _ (fun j hj => ?_) (fun j hj => by rw [wr_ne _ (by decide), wr_ne _ (by decide)]; exact h3 j hj) (fun q hq => by rw [wr_ne _ (by omega)]; exact h4 q hq) h5
      rw [upd_row, h4 12 (by decide)]
      by_cases e : j = i
      · rw [if_pos e, e]
      · rw [if_neg e]; exact h2 j (by omega)
  have loop1 : ∀ i, i ≤ 16 → ∀ M1 : Mem, (∀ j, j < i → M1.1 24 j = M.1 10 j ∧ M1.1 25 j = M.1 11 j) → (∀ q, q < 23 ∨ 29 < q → M1.1 q = M.1 q) → M1.2 = M.2 → WX mi_G_copyFrom 1 Q 2 [some (.ref 23), some (.ref 9), some (.int (nI i))] [] M1 := by
    refine downN 16 (fun M1 h3 h4 h5 => ?_) (fun i hi ih M1 h3 h4 h5 => ?_)
    · exact sg_G_copyFrom_23_9_2 M1 _ (fun _ => loop2 0 (by decide) M1 (fun j hj => absurd hj (Nat.not_lt_zero j)) h3 h4 h5) (fun c => absurd ge16 c) (fun c => absurd ge16 c)
    · refine sg_G_copyFrom_23_9_2 M1 _ (fun c => absurd c (lt16 hi)) (fun _ => vp_in_nI hi (by decide)) (fun _ => ?_)
      rw [nI_clamp (by omega), nI_1]
      refine ih _ (fun j hj => ?_) (fun q hq => by rw [wr_ne _ (by omega), wr_ne _ (by omega)]; exact h4 q hq) h5
      have f1 := congrFun (h4 10 (by decide)) i
      have f2 := congrFun (h4 11 (by decide)) i
      by_cases e : j = i
      · subst e; simp [wr, f1, f2]
      · have := h3 j (by omega)
        simp [wr, e, this]
  exact loop1 0 (by decide) M (fun j hj => absurd hj (Nat.not_lt_zero j)) (fun _ _ => rfl) rfl
theorem wx_copy_9_16 {p : Pl} {gh : Gh} {M : Mem} {Q : Option Value → Mem → Prop} (h : RCg 16 p gh M) (hl : gh.2.length ≤ 10) (hQ : ∀ M', RCg 9 p gh M' → (∀ q, q < 9 ∨ 15 < q → M'.1 q = M.1 q) → M'.2 = M.2 → Q none M') : WX mi_G_copyFrom 1 Q 0 [some (.ref 9), some (.ref 16), none] [] M := by
  obtain ⟨c1, c2, c3, c4, c5, c6, c7⟩ := h
  refine sg_G_copyFrom_9_16_0 M ?_
  have loop3 : ∀ i, i ≤ 10 → ∀ M1 : Mem, (∀ j, j < i → M1.1 13 j = M.1 20 j ∧ M1.1 14 j = M.1 21 j ∧ M1.1 15 j = M.1 22 j) → (∀ j, j < 4 → M1.1 12 j = M.1 19 j) → (∀ j, j < 16 → M1.1 10 j = M.1 17 j ∧ M1.1 11 j = M.1 18 j) → (∀ q, q < 9 ∨ 15 < q → M1.1 q = M.1 q) → M1.2 = M.2 → WX mi_G_copyFrom 1 Q 65 [some (.ref 9), some (.ref 16), some (.int (nI i))] [] M1 := by
    refine downN 10 (fun M1 h1 h2 h3 h4 h5 => ?_) (fun i hi ih M1 h1 h2 h3 h4 h5 => ?_)
    · refine sg_G_copyFrom_9_16_65 M1 _ (fun _ => ?_) (fun c => absurd (by decide) c) (fun c => absurd (by decide) c)
      refine hQ _ ⟨fun k hk ht => ?_, fun u hu => ?_, fun z hz => ?_, ?_, ?_, ?_, fun j e he => ?_⟩ (fun q hq => by rw [wr_ne _ (by omega), wr_ne _ (by omega), wr_ne _ (by omega)]; exact h4 q hq) h5
      · rw [wr_ne _ (by decide), wr_ne _ (by decide), wr_ne _ (by decide)]; exact (h3 k hk).1.trans (c1 k hk ht)
      · rw [wr_ne _ (by decide), wr_ne _ (by decide), wr_ne _ (by decide)]; exact (h3 u hu).2.trans (c2 u hu)
      · rw [wr_ne _ (by decide), wr_ne _ (by decide), wr_ne _ (by decide)]; exact (h2 z hz).trans (c3 z hz)
      · simp only [wr]; simp [h4]; exact c4
      · simp only [wr]; simp [h4]; exact c5
      · simp only [wr]; simp [h4]; exact c6
      · have hj : j < gh.2.length := (List.getElem?_eq_some_iff.mp he).1
        rw [wr_ne _ (by decide), wr_ne _ (by decide), wr_ne _ (by decide), wr_ne _ (by decide), wr_ne _ (by decide), wr_ne _ (by decide), wr_ne _ (by decide), wr_ne _ (by decide), wr_ne _ (by decide)]
        have hh := h1 (gh.2.length - 1 - j) (by omega)
        have := c7 j e he
        exact ⟨hh.1.trans this.1, hh.2.1.trans this.2.1, hh.2.2.trans this.2.2⟩
    · refine sg_G_copyFrom_9_16_65 M1 _ (fun c => absurd c (Int32.not_le.mpr (nI_lt (b := 10) hi (by decide)))) (fun _ => vp_in_nI hi (by decide)) (fun _ => ?_)
      rw [nI_clamp (by omega), nI_1]
      refine ih _ (fun j hj => ?_) (fun j hj => by rw [wr_ne _ (by decide), wr_ne _ (by decide), wr_ne _ (by decide)]; exact h2 j hj) (fun j hj => by rw [wr_ne _ (by decide), wr_ne _ (by decide), wr_ne _ (by decide), wr_ne _ (by decide), wr_ne _ (by decide), wr_ne _ (by decide)]; exact h3 j hj) (fun q hq => by rw [wr_ne _ (by omega), wr_ne _ (by omega), wr_ne _ (by omega)]; exact h4 q hq) h5
      have f4 := congrFun (h4 20 (by decide)) i
      have f5 := congrFun (h4 21 (by decide)) i
      have f6 := congrFun (h4 22 (by decide)) i
      by_cases e : j = i
      · subst e; simp [wr, f4, f5, f6]
      · have := h1 j (by omega)
        simp [wr, e, this]
  have loop2 : ∀ i, i ≤ 4 → ∀ M1 : Mem, (∀ j, j < i → M1.1 12 j = M.1 19 j) → (∀ j, j < 16 → M1.1 10 j = M.1 17 j ∧ M1.1 11 j = M.1 18 j) → (∀ q, q < 9 ∨ 15 < q → M1.1 q = M.1 q) → M1.2 = M.2 → WX mi_G_copyFrom 1 Q 40 [some (.ref 9), some (.ref 16), some (.int (nI i))] [] M1 := by
    refine downN 4 (fun M1 h2 h3 h4 h5 => ?_) (fun i hi ih M1 h2 h3 h4 h5 => ?_)
    · exact sg_G_copyFrom_9_16_40 M1 _ (fun _ => loop3 0 (by decide) M1 (fun j hj => absurd hj (Nat.not_lt_zero j)) h2 h3 h4 h5) (fun c => absurd (by decide) c) (fun c => absurd (by decide) c)
    · refine sg_G_copyFrom_9_16_40 M1 _ (fun c => absurd c (Int32.not_le.mpr (nI_lt (b := 4) hi (by decide)))) (fun _ => vp_in_nI hi (by decide)) (fun _ => ?_)
      rw [nI_clamp (by omega), nI_1]
      refine ih _ (fun j hj => ?_) (fun j hj => by rw [wr_ne _ (by decide), wr_ne _ (by decide)]; exact h3 j hj) (fun q hq => by rw [wr_ne _ (by omega)]; exact h4 q hq) h5
      rw [upd_row, h4 19 (by decide)]
      by_cases e : j = i
      · rw [if_pos e, e]
      · rw [if_neg e]; exact h2 j (by omega)
  have loop1 : ∀ i, i ≤ 16 → ∀ M1 : Mem, (∀ j, j < i → M1.1 10 j = M.1 17 j ∧ M1.1 11 j = M.1 18 j) → (∀ q, q < 9 ∨ 15 < q → M1.1 q = M.1 q) → M1.2 = M.2 → WX mi_G_copyFrom 1 Q 2 [some (.ref 9), some (.ref 16), some (.int (nI i))] [] M1 := by
    refine downN 16 (fun M1 h3 h4 h5 => ?_) (fun i hi ih M1 h3 h4 h5 => ?_)
    · exact sg_G_copyFrom_9_16_2 M1 _ (fun _ => loop2 0 (by decide) M1 (fun j hj => absurd hj (Nat.not_lt_zero j)) h3 h4 h5) (fun c => absurd ge16 c) (fun c => absurd ge16 c)
    · refine sg_G_copyFrom_9_16_2 M1 _ (fun c => absurd c (lt16 hi)) (fun _ => vp_in_nI hi (by decide)) (fun _ => ?_)
      rw [nI_clamp (by omega), nI_1]
      refine ih _ (fun j hj => ?_) (fun q hq => by rw [wr_ne _ (by omega), wr_ne _ (by omega)]; exact h4 q hq) h5
      have f1 := congrFun (h4 17 (by decide)) i
      have f2 := congrFun (h4 18 (by decide)) i
      by_cases e : j = i
      · subst e; simp [wr, f1, f2]
      · have := h3 j (by omega)
        simp [wr, e, this]
  exact loop1 0 (by decide) M (fun j hj => absurd hj (Nat.not_lt_zero j)) (fun _ _ => rfl) rfl
theorem wx_copy_9_23 {p : Pl} {gh : Gh} {M : Mem} {Q : Option Value → Mem → Prop} (h : RCg 23 p gh M) (hl : gh.2.length ≤ 10) (hQ : ∀ M', RCg 9 p gh M' → (∀ q, q < 9 ∨ 15 < q → M'.1 q = M.1 q) → M'.2 = M.2 → Q none M') : WX mi_G_copyFrom 1 Q 0 [some (.ref 9), some (.ref 23), none] [] M := by
  obtain ⟨c1, c2, c3, c4, c5, c6, c7⟩ := h
  refine sg_G_copyFrom_9_23_0 M ?_
  have loop3 : ∀ i, i ≤ 10 → ∀ M1 : Mem, (∀ j, j < i → M1.1 13 j = M.1 27 j ∧ M1.1 14 j = M.1 28 j ∧ M1.1 15 j = M.1 29 j) → (∀ j, j < 4 → M1.1 12 j = M.1 26 j) → (∀ j, j < 16 → M1.1 10 j = M.1 24 j ∧ M1.1 11 j = M.1 25 j) → (∀ q, q < 9 ∨ 15 < q → M1.1 q = M.1 q) → M1.2 = M.2 → WX mi_G_copyFrom 1 Q 65 [some (.ref 9), some (.ref 23), some (.int (nI i))] [] M1 := by
    refine downN 10 (fun M1 h1 h2 h3 h4 h5 => ?_) (fun i hi ih M1 h1 h2 h3 h4 h5 => ?_)
    · refine sg_G_copyFrom_9_23_65 M1 _ (fun _ => ?_) (fun c => absurd (by decide) c) (fun c => absurd (by decide) c)
      refine hQ _ ⟨fun k hk ht => ?_, fun u hu => ?_, fun z hz => ?_, ?_, ?_, ?_, fun j e he => ?_⟩ (fun q hq => by rw [wr_ne _ (by omega), wr_ne _ (by omega), wr_ne _ (by omega)]; exact h4 q hq) h5
      · rw [wr_ne _ (by decide), wr_ne _ (by decide), wr_ne _ (by decide)]; exact (h3 k hk).1.trans (c1 k hk ht)
      · rw [wr_ne _ (by decide), wr_ne _ (by decide), wr_ne _ (by decide)]; exact (h3 u hu).2.trans (c2 u hu)
      · rw [wr_ne _ (by decide), wr_ne _ (by decide), wr_ne _ (by decide)]; exact (h2 z hz).trans (c3 z hz)
      · simp only [wr]; simp [h4]; exact c4
      · simp only [wr]; simp [h4]; exact c5
      · simp only [wr]; simp [h4]; exact c6
      · have hj : j < gh.2.length := (List.getElem?_eq_some_iff.mp he).1
        rw [wr_ne _ (by decide), wr_ne _ (by decide), wr_ne _ (by decide), wr_ne _ (by decide), wr_ne _ (by decide), wr_ne _ (by decide), wr_ne _ (by decide), wr_ne _ (by decide), wr_ne _ (by decide)]
        have hh := h1 (gh.2.length - 1 - j) (by omega)
        have := c7 j e he
        exact ⟨hh.1.trans this.1, hh.2.1.trans this.2.1, hh.2.2.trans this.2.2⟩
    · refine sg_G_copyFrom_9_23_65 M1 _ (fun c => absurd c (Int32.not_le.mpr (nI_lt (b := 10) hi (by decide)))) (fun _ => vp_in_nI hi (by decide)) (fun _ => ?_)
      rw [nI_clamp (by omega), nI_1]
      refine ih _ (fun j hj => ?_) (fun j hj => by rw [wr_ne _ (by decide), wr_ne _ (by decide), wr_ne _ (by decide)]; exact h2 j hj) (fun j hj => by rw [wr_ne _ (by decide), wr_ne _ (by decide), wr_ne _ (by decide), wr_ne _ (by decide), wr_ne _ (by decide), wr_ne _ (by decide)]; exact h3 j hj) (fun q hq => by rw [wr_ne _ (by omega), wr_ne _ (by omega), wr_ne _ (by omega)]; exact h4 q hq) h5
      have f4 := congrFun (h4 27 (by decide)) i
      have f5 := congrFun (h4 28 (by decide)) i
      have f6 := congrFun (h4 29 (by decide)) i
      by_cases e : j = i
      · subst e; simp [wr, f4, f5, f6]
      · have := h1 j (by omega)
        simp [wr, e, this]
  have loop2 : ∀ i, i ≤ 4 → ∀ M1 : Mem, (∀ j, j < i → M1.1 12 j = M.1 26 j) → (∀ j, j < 16 → M1.1 10 j = M.1 24 j ∧ M1.1 11 j = M.1 25 j) → (∀ q, q < 9 ∨ 15 < q → M1.1 q = M.1 q) → M1.2 = M.2 → WX mi_G_copyFrom 1 Q 40 [some (.ref 9), some (.ref 23), some (.int (nI i))] [] M1 := by
    refine downN 4 (fun M1 h2 h3 h4 h5 => ?_) (fun i hi ih M1 h2 h3 h4 h5 => ?_)
    · exact sg_G_copyFrom_9_23_40 M1 _ (fun _ => loop3 0 (by decide) M1 (fun j hj => absurd hj (Nat.not_lt_zero j)) h2 h3 h4 h5) (fun c => absurd (by decide) c) (fun c => absurd (by decide) c)
    · refine sg_G_copyFrom_9_23_40 M1 _ (fun c => absurd c (Int32.not_le.mpr (nI_lt (b := 4) hi (by decide)))) (fun _ => vp_in_nI hi (by decide)) (fun _ => ?_)
      rw [nI_clamp (by omega), nI_1]
      refine ih _ (fun j hj => ?_) (fun j hj => by rw [wr_ne _ (by decide), wr_ne _ (by decide)]; exact h3 j hj) (fun q hq => by rw [wr_ne _ (by omega)]; exact h4 q hq) h5
      rw [upd_row, h4 26 (by decide)]
      by_cases e : j = i
      · rw [if_pos e, e]
      · rw [if_neg e]; exact h2 j (by omega)
  have loop1 : ∀ i, i ≤ 16 → ∀ M1 : Mem, (∀ j, j < i → M1.1 10 j = M.1 24 j ∧ M1.1 11 j = M.1 25 j) → (∀ q, q < 9 ∨ 15 < q → M1.1 q = M.1 q) → M1.2 = M.2 → WX mi_G_copyFrom 1 Q 2 [some (.ref 9), some (.ref 23), some (.int (nI i))] [] M1 := by
    refine downN 16 (fun M1 h3 h4 h5 => ?_) (fun i hi ih M1 h3 h4 h5 => ?_)
    · exact sg_G_copyFrom_9_23_2 M1 _ (fun _ => loop2 0 (by decide) M1 (fun j hj => absurd hj (Nat.not_lt_zero j)) h3 h4 h5) (fun c => absurd ge16 c) (fun c => absurd ge16 c)
    · refine sg_G_copyFrom_9_23_2 M1 _ (fun c => absurd c (lt16 hi)) (fun _ => vp_in_nI hi (by decide)) (fun _ => ?_)
      rw [nI_clamp (by omega), nI_1]
      refine ih _ (fun j hj => ?_) (fun q hq => by rw [wr_ne _ (by omega), wr_ne _ (by omega)]; exact h4 q hq) h5
      have f1 := congrFun (h4 24 (by decide)) i
      have f2 := congrFun (h4 25 (by decide)) i
      by_cases e : j = i
      · subst e; simp [wr, f1, f2]
      · have := h3 j (by omega)
        simp [wr, e, this]
  exact loop1 0 (by decide) M (fun j hj => absurd hj (Nat.not_lt_zero j)) (fun _ _ => rfl) rfl
theorem at419 : ∀ k, k < 2 → (419 : Int32) * (1 + nI k) = nI (419 + 419 * k) := by decide +kernel
theorem RC.img {t : List Nat} {p : Pl} {gh : Gh} {im im' : Option Gh × Option Gh} {sn : List Nat} {tr : Int64} {M M' : Mem} (h : RC (t, p, gh, im, sn, tr) M) (hf : ∀ q, q ≠ 0 → q < 16 ∨ 29 < q → M'.1 q = M.1 q) (h0 : ∀ k, k ≠ 8 → M'.1 0 k = M.1 0 k) (h2 : M'.2 = M.2) (hg : RCi p im' M') : RC (t, p, gh, im', sn, tr) M' ∧ FrC M M' := by
  obtain ⟨g1, g2, g3, g4, g5, g6⟩ := h
  refine ⟨⟨?_, ?_, ?_, hg, ?_, by rw [h2]; exact g6⟩, fun q hq => hf q (by omega) (by omega), by rw [h2]⟩
  · unfold RCt at g1 ⊢; rw [hf 1 (by decide) (by decide), hf 2 (by decide) (by decide)]; exact g1
  · unfold RCp at g2 ⊢; rw [hf 6 (by decide) (by decide)]; exact g2
  · unfold RCg at g3 ⊢
    rw [hf 9 (by decide) (by decide), hf (9 + 1) (by decide) (by decide), hf (9 + 2) (by decide) (by decide), hf (9 + 3) (by decide) (by decide), hf (9 + 4) (by decide) (by decide), hf (9 + 5) (by decide) (by decide), hf (9 + 6) (by decide) (by decide)]
    exact g3
  · unfold RCs at g5 ⊢; rw [h0 9 (by decide), h0 10 (by decide)]; exact g5
theorem two_iff (x : Int32) : (¬ x < 0 ∧ x < 2) ↔ (0 ≤ x ∧ x ≤ 1) := by
  rw [Int32.not_lt, Int32.le_iff_toInt_le, Int32.lt_iff_toInt_lt, Int32.le_iff_toInt_le, show (0 : Int32).toInt = 0 from rfl, show (2 : Int32).toInt = 2 from rfl, show (1 : Int32).toInt = 1 from rfl]
  omega
