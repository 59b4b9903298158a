/-! ===== keep, back; printed by wip/gen/p25.py ===== -/
theorem wx_copy_16_9 {p : Pl} {gh : Gh} {M : Mem} {Q : Option Value → Mem → Prop} (h : RCg 9 p gh M) (hl : gh.2.length ≤ 10) (hQ : ∀ M', RCg 16 p gh M' → (∀ q, q < 16 ∨ 22 < q → M'.1 q = M.1 q) → M'.2 = M.2 → Q none M') : WX mi_G_copyFrom 1 Q 0 [some (.ref 16), some (.ref 9), none] [] M := by
  obtain ⟨c1, c2, c3, c4, c5, c6, c7⟩ := h
  refine sg_G_copyFrom_16_9_0 M ?_
  have loop3 : ∀ i, i ≤ 10 → ∀ M1 : Mem, (∀ j, j < i → M1.1 20 j = M.1 13 j ∧ M1.1 21 j = M.1 14 j ∧ M1.1 22 j = M.1 15 j) → (∀ j, j < 4 → M1.1 19 j = M.1 12 j) → (∀ j, j < 16 → M1.1 17 j = M.1 10 j ∧ M1.1 18 j = M.1 11 j) → (∀ q, q < 16 ∨ 22 < q → M1.1 q = M.1 q) → M1.2 = M.2 → WX mi_G_copyFrom 1 Q 65 [some (.ref 16), some (.ref 9), some (.int (nI i))] [] M1 := by
    refine downN 10 (fun M1 h1 h2 h3 h4 h5 => ?_) (fun i hi ih M1 h1 h2 h3 h4 h5 => ?_)
    · refine sg_G_copyFrom_16_9_65 M1 _ (fun _ => ?_) (fun c => absurd (by decide) c) (fun c => absurd (by decide) c)
      refine hQ _ ⟨fun k hk ht => ?_, fun u hu => ?_, fun z hz => ?_, ?_, ?_, ?_, fun j e he => ?_⟩ (fun q hq => by rw [wr_ne _ (by omega), wr_ne _ (by omega), wr_ne _ (by omega)]; exact h4 q hq) h5
      · rw [wr_ne _ (by decide), wr_ne _ (by decide), wr_ne _ (by decide)]; exact (h3 k hk).1.trans (c1 k hk ht)
      · rw [wr_ne _ (by decide), wr_ne _ (by decide), wr_ne _ (by decide)]; exact (h3 u hu).2.trans (c2 u hu)
      · rw [wr_ne _ (by decide), wr_ne _ (by decide), wr_ne _ (by decide)]; exact (h2 z hz).trans (c3 z hz)
      · simp only [wr]; simp [h4]; exact c4
      · simp only [wr]; simp [h4]; exact c5
      · simp only [wr]; simp [h4]; exact c6
      · have hj : j < gh.2.length := (List.getElem?_eq_some_iff.mp he).1
        rw [wr_ne _ (by decide), wr_ne _ (by decide), wr_ne _ (by decide), wr_ne _ (by decide), wr_ne _ (by decide), wr_ne _ (by decide), wr_ne _ (by decide), wr_ne _ (by decide), wr_ne _ (by decide)]
        have hh := h1 (gh.2.length - 1 - j) (by omega)
        have := c7 j e he
        exact ⟨hh.1.trans this.1, hh.2.1.trans this.2.1, hh.2.2.trans this.2.2⟩
    · refine sg_G_copyFrom_16_9_65 M1 _ (fun c => absurd c (Int32.not_le.mpr (nI_lt (b := 10) hi (by decide)))) (fun _ => vp_in_nI hi (by decide)) (fun _ => ?_)
      rw [nI_clamp (by omega), nI_1]
      refine ih _ (fun j hj => ?_) (fun j hj => by rw [wr_ne _ (by decide), wr_ne _ (by decide), wr_ne _ (by decide)]; exact h2 j hj) (fun j hj => by rw [wr_ne _ (by decide), wr_ne _ (by decide), wr_ne _ (by decide), wr_ne _ (by decide), wr_ne _ (by decide), wr_ne _ (by decide)]; exact h3 j hj) (fun q hq => by rw [wr_ne _ (by omega), wr_ne _ (by omega), wr_ne _ (by omega)]; exact h4 q hq) h5
      have f4 := congrFun (h4 13 (by decide)) i
      have f5 := congrFun (h4 14 (by decide)) i
      have f6 := congrFun (h4 15 (by decide)) i
      by_cases e : j = i
      · subst e; simp [wr, f4, f5, f6]
      · have := h1 j (by omega)
        simp [wr, e, this]
  have loop2 : ∀ i, i ≤ 4 → ∀ M1 : Mem, (∀ j, j < i → M1.1 19 j = M.1 12 j) → (∀ j, j < 16 → M1.1 17 j = M.1 10 j ∧ M1.1 18 j = M.1 11 j) → (∀ q, q < 16 ∨ 22 < q → M1.1 q = M.1 q) → M1.2 = M.2 → WX mi_G_copyFrom 1 Q 40 [some (.ref 16), some (.ref 9), some (.int (nI i))] [] M1 := by
    refine downN 4 (fun M1 h2 h3 h4 h5 => ?_) (fun i hi ih M1 h2 h3 h4 h5 => ?_)
    · exact sg_G_copyFrom_16_9_40 M1 _ (fun _ => loop3 0 (by decide) M1 (fun j hj => absurd hj (Nat.not_lt_zero j)) h2 h3 h4 h5) (fun c => absurd (by decide) c) (fun c => absurd (by decide) c)
    · refine sg_G_copyFrom_16_9_40 M1 _ (fun c => absurd c (Int32.not_le.mpr (nI_lt (b := 4) hi (by decide)))) (fun _ => vp_in_nI hi (by decide)) (fun _ => ?_)
      rw [nI_clamp (by omega), nI_1]
      refine ih _ (fun j hj => ?_) (fun j hj => by rw [wr_ne _ (by decide), wr_ne _ (by decide)]; exact h3 j hj) (fun q hq => by rw [wr_ne _ (by omega)]; exact h4 q hq) h5
      rw [upd_row, h4 12 (by decide)]
      by_cases e : j = i
      · rw [if_pos e, e]
      · rw [if_neg e]; exact h2 j (by omega)
  have loop1 : ∀ i, i ≤ 16 → ∀ M1 : Mem, (∀ j, j < i → M1.1 17 j = M.1 10 j ∧ M1.1 18 j = M.1 11 j) → (∀ q, q < 16 ∨ 22 < q → M1.1 q = M.1 q) → M1.2 = M.2 → WX mi_G_copyFrom 1 Q 2 [some (.ref 16), some (.ref 9), some (.int (nI i))] [] M1 := by
    refine downN 16 (fun M1 h3 h4 h5 => ?_) (fun i hi ih M1 h3 h4 h5 => ?_)
    · exact sg_G_copyFrom_16_9_2 M1 _ (fun _ => loop2 0 (by decide) M1 (fun j hj => absurd hj (Nat.not_lt_zero j)) h3 h4 h5) (fun c => absurd ge16 c) (fun c => absurd ge16 c)
    · refine sg_G_copyFrom_16_9_2 M1 _ (fun c => absurd c (lt16 hi)) (fun _ => vp_in_nI hi (by decide)) (fun _ => ?_)
      rw [nI_clamp (by omega), nI_1]
      refine ih _ (fun j hj => ?_) (fun q hq => by rw [wr_ne _ (by omega), wr_ne _ (by omega)]; exact h4 q hq) h5
      have f1 := congrFun (h4 10 (by decide)) i
      have f2 := congrFun (h4 11 (by decide)) i
      by_cases e : j = i
      · subst e; simp [wr, f1, f2]
      · have := h3 j (by omega)
        simp [wr, e, this]
  exact loop1 0 (by decide) M (fun j hj => absurd hj (Nat.not_lt_zero j)) (fun _ _ => rfl) rfl
theorem wx_copy_23_9 {p : Pl} {gh : Gh} {M : Mem} {Q : Option Value → Mem → Prop} (h : RCg 9 p gh M) (hl : gh.2.length ≤ 10) (hQ : ∀ M', RCg 23 p gh M' → (∀ q, q < 23 ∨ 29 < q → M'.1 q = M.1 q) → M'.2 = M.2 → Q none M') : WX mi_G_copyFrom 1 Q 0 [some (.ref 23), some (.ref 9), none] [] M := by
  obtain ⟨c1, c2, c3, c4, c5, c6, c7⟩ := h
  refine sg_G_copyFrom_23_9_0 M ?_
  have loop3 : ∀ i, i ≤ 10 → ∀ M1 : Mem, (∀ j, j < i → M1.1 27 j = M.1 13 j ∧ M1.1 28 j = M.1 14 j ∧ M1.1 29 j = M.1 15 j) → (∀ j, j < 4 → M1.1 26 j = M.1 12 j) → (∀ j, j < 16 → M1.1 24 j = M.1 10 j ∧ M1.1 25 j = M.1 11 j) → (∀ q, q < 23 ∨ 29 < q → M1.1 q = M.1 q) → M1.2 = M.2 → WX mi_G_copyFrom 1 Q 65 [some (.ref 23), some (.ref 9), some (.int (nI i))] [] M1 := by
    refine downN 10 (fun M1 h1 h2 h3 h4 h5 => ?_) (fun i hi ih M1 h1 h2 h3 h4 h5 => ?_)
    · refine sg_G_copyFrom_23_9_65 M1 _ (fun _ => ?_) (fun c => absurd (by decide) c) (fun c => absurd (by decide) c)
      refine hQ _ ⟨fun k hk ht => ?_, fun u hu => ?_, fun z hz => ?_, ?_, ?_, ?_, fun j e he => ?_⟩ (fun q hq => by rw [wr_ne _ (by omega), wr_ne _ (by omega), wr_ne _ (by omega)]; exact h4 q hq) h5
      · rw [wr_ne _ (by decide), wr_ne _ (by decide), wr_ne _ (by decide)]; exact (h3 k hk).1.trans (c1 k hk ht)
      · rw [wr_ne _ (by decide), wr_ne _ (by decide), wr_ne _ (by decide)]; exact (h3 u hu).2.trans (c2 u hu)
      · rw [wr_ne _ (by decide), wr_ne _ (by decide), wr_ne _ (by decide)]; exact (h2 z hz).trans (c3 z hz)
      · simp only [wr]; simp [h4]; exact c4
      · simp only [wr]; simp [h4]; exact c5
      · simp only [wr]; simp [h4]; exact c6
      · have hj : j < gh.2.length := (List.getElem?_eq_some_iff.mp he).1
        rw [wr_ne _ (by decide), wr_ne _ (by decide), wr_ne _ (by decide), wr_ne _ (by decide), wr_ne _ (by decide), wr_ne _ (by decide), wr_ne _ (by decide), wr_ne _ (by decide), wr_ne _ (by decide)]
        have hh := h1 (gh.2.length - 1 - j) (by omega)
        have := c7 j e he
        exact ⟨hh.1.trans this.1, hh.2.1.trans this.2.1, hh.2.2.trans this.2.2⟩
    · refine sg_G_copyFrom_23_9_65 M1 _ (fun c => absurd c (Int32.not_le.mpr (nI_lt (b := 10) hi (by decide)))) (fun _ => vp_in_nI hi (by decide)) (fun _ => ?_)
      rw [nI_clamp (by omega), nI_1]
      refine ih _ (fun j hj => ?_) (fun j hj => by rw [wr_ne _ (by decide), wr_ne _ (by decide), wr_ne _ (by decide)]; exact h2 j hj) (fun j hj => by rw [wr_ne _ (by decide), wr_ne _ (by decide), wr_ne _ (by decide), wr_ne _ (by decide), wr_ne _ (by decide), wr_ne _ (by decide)]; exact h3 j hj) (fun q hq => by rw [wr_ne _ (by omega), wr_ne _ (by omega), wr_ne _ (by omega)]; exact h4 q hq) h5
      have f4 := congrFun (h4 13 (by decide)) i
      have f5 := congrFun (h4 14 (by decide)) i
      have f6 := congrFun (h4 15 (by decide)) i
      by_cases e : j = i
      · subst e; simp [wr, f4, f5, f6]
      · have := h1 j (by omega)
        simp [wr, e, this]
  have loop2 : ∀ i, i ≤ 4 → ∀ M1 : Mem, (∀ j, j < i → M1.1 26 j = M.1 12 j) → (∀ j, j < 16 → M1.1 24 j = M.1 10 j ∧ M1.1 25 j = M.1 11 j) → (∀ q, q < 23 ∨ 29 < q → M1.1 q = M.1 q) → M1.2 = M.2 → WX mi_G_copyFrom 1 Q 40 [some (.ref 23), some (.ref 9), some (.int (nI i))] [] M1 := by
    refine downN 4 (fun M1 h2 h3 h4 h5 => ?_) (fun i hi ih M1 h2 h3 h4 h5 => ?_)
    · exact sg_G_copyFrom_23_9_40 M1 _ (fun _ => loop3 0 (by decide) M1 (fun j hj => absurd hj (Nat.not_lt_zero j)) h2 h3 h4 h5) (fun c => absurd (by decide) c) (fun c => absurd (by decide) c)
    · refine sg_G_copyFrom_23_9_40 M1 _ (fun c => absurd c (Int32.not_le.mpr (nI_lt (b := 4) hi (by decide)))) (fun _ => vp_in_nI hi (by decide)) (fun _ => ?_)
      rw [nI_clamp (by omega), nI_1]
      refine ih _ (fun j hj => ?_) (fun j hj => by rw [wr_ne _ (by decide), wr_ne _ (by decide)]; exact h3 j hj) (fun q hq => by rw [wr_ne _ (by omega)]; exact h4 q hq) h5
      rw [upd_row, h4 12 (by decide)]
      by_cases e : j = i
      · rw [if_pos e, e]
      · rw [if_neg e]; exact h2 j (by omega)
  have loop1 : ∀ i, i ≤ 16 → ∀ M1 : Mem, (∀ j, j < i → M1.1 24 j = M.1 10 j ∧ M1.1 25 j = M.1 11 j) → (∀ q, q < 23 ∨ 29 < q → M1.1 q = M.1 q) → M1.2 = M.2 → WX mi_G_copyFrom 1 Q 2 [some (.ref 23), some (.ref 9), some (.int (nI i))] [] M1 := by
    refine downN 16 (fun M1 h3 h4 h5 => ?_) (fun i hi ih M1 h3 h4 h5 => ?_)
    · exact sg_G_copyFrom_23_9_2 M1 _ (fun _ => loop2 0 (by decide) M1 (fun j hj => absurd hj (Nat.not_lt_zero j)) h3 h4 h5) (fun c => absurd ge16 c) (fun c => absurd ge16 c)
    · refine sg_G_copyFrom_23_9_2 M1 _ (fun c => absurd c (lt16 hi)) (fun _ => vp_in_nI hi (by decide)) (fun _ => ?_)
      rw [nI_clamp (by omega), nI_1]
      refine ih _ (fun j hj => ?_) (fun q hq => by rw [wr_ne _ (by omega), wr_ne _ (by omega)]; exact h4 q hq) h5
      have f1 := congrFun (h4 10 (by decide)) i
      have f2 := congrFun (h4 11 (by decide)) i
      by_cases e : j = i
      · subst e; simp [wr, f1, f2]
      · have := h3 j (by omega)
        simp [wr, e, this]
  exact loop1 0 (by decide) M (fun j hj => absurd hj (Nat.not_lt_zero j)) (fun _ _ => rfl) rfl
theorem wx_copy_9_16 {p : Pl} {gh : Gh} {M : Mem} {Q : Option Value → Mem → Prop} (h : RCg 16 p gh M) (hl : gh.2.length ≤ 10) (hQ : ∀ M', RCg 9 p gh M' → (∀ q, q < 9 ∨ 15 < q → M'.1 q = M.1 q) → M'.2 = M.2 → Q none M') : WX mi_G_copyFrom 1 Q 0 [some (.ref 9), some (.ref 16), none] [] M := by
  obtain ⟨c1, c2, c3, c4, c5, c6, c7⟩ := h
  refine sg_G_copyFrom_9_16_0 M ?_
  have loop3 : ∀ i, i ≤ 10 → ∀ M1 : Mem, (∀ j, j < i → M1.1 13 j = M.1 20 j ∧ M1.1 14 j = M.1 21 j ∧ M1.1 15 j = M.1 22 j) → (∀ j, j < 4 → M1.1 12 j = M.1 19 j) → (∀ j, j < 16 → M1.1 10 j = M.1 17 j ∧ M1.1 11 j = M.1 18 j) → (∀ q, q < 9 ∨ 15 < q → M1.1 q = M.1 q) → M1.2 = M.2 → WX mi_G_copyFrom 1 Q 65 [some (.ref 9), some (.ref 16), some (.int (nI i))] [] M1 := by
    refine downN 10 (fun M1 h1 h2 h3 h4 h5 => ?_) (fun i hi ih M1 h1 h2 h3 h4 h5 => ?_)
    · refine sg_G_copyFrom_9_16_65 M1 _ (fun _ => ?_) (fun c => absurd (by decide) c) (fun c => absurd (by decide) c)
      refine hQ _ ⟨fun k hk ht => ?_, fun u hu => ?_, fun z hz => ?_, ?_, ?_, ?_, fun j e he => ?_⟩ (fun q hq => by rw [wr_ne _ (by omega), wr_ne _ (by omega), wr_ne _ (by omega)]; exact h4 q hq) h5
      · rw [wr_ne _ (by decide), wr_ne _ (by decide), wr_ne _ (by decide)]; exact (h3 k hk).1.trans (c1 k hk ht)
      · rw [wr_ne _ (by decide), wr_ne _ (by decide), wr_ne _ (by decide)]; exact (h3 u hu).2.trans (c2 u hu)
      · rw [wr_ne _ (by decide), wr_ne _ (by decide), wr_ne _ (by decide)]; exact (h2 z hz).trans (c3 z hz)
      · simp only [wr]; simp [h4]; exact c4
      · simp only [wr]; simp [h4]; exact c5
      · simp only [wr]; simp [h4]; exact c6
      · have hj : j < gh.2.length := (List.getElem?_eq_some_iff.mp he).1
        rw [wr_ne _ (by decide), wr_ne _ (by decide), wr_ne _ (by decide), wr_ne _ (by decide), wr_ne _ (by decide), wr_ne _ (by decide), wr_ne _ (by decide), wr_ne _ (by decide), wr_ne _ (by decide)]
        have hh := h1 (gh.2.length - 1 - j) (by omega)
        have := c7 j e he
        exact ⟨hh.1.trans this.1, hh.2.1.trans this.2.1, hh.2.2.trans this.2.2⟩
    · refine sg_G_copyFrom_9_16_65 M1 _ (fun c => absurd c (Int32.not_le.mpr (nI_lt (b := 10) hi (by decide)))) (fun _ => vp_in_nI hi (by decide)) (fun _ => ?_)
      rw [nI_clamp (by omega), nI_1]
      refine ih _ (fun j hj => ?_) (fun j hj => by rw [wr_ne _ (by decide), wr_ne _ (by decide), wr_ne _ (by decide)]; exact h2 j hj) (fun j hj => by rw [wr_ne _ (by decide), wr_ne _ (by decide), wr_ne _ (by decide), wr_ne _ (by decide), wr_ne _ (by decide), wr_ne _ (by decide)]; exact h3 j hj) (fun q hq => by rw [wr_ne _ (by omega), wr_ne _ (by omega), wr_ne _ (by omega)]; exact h4 q hq) h5
      have f4 := congrFun (h4 20 (by decide)) i
      have f5 := congrFun (h4 21 (by decide)) i
      have f6 := congrFun (h4 22 (by decide)) i
      by_cases e : j = i
      · subst e; simp [wr, f4, f5, f6]
      · have := h1 j (by omega)
        simp [wr, e, this]
  have loop2 : ∀ i, i ≤ 4 → ∀ M1 : Mem, (∀ j, j < i → M1.1 12 j = M.1 19 j) → (∀ j, j < 16 → M1.1 10 j = M.1 17 j ∧ M1.1 11 j = M.1 18 j) → (∀ q, q < 9 ∨ 15 < q → M1.1 q = M.1 q) → M1.2 = M.2 → WX mi_G_copyFrom 1 Q 40 [some (.ref 9), some (.ref 16), some (.int (nI i))] [] M1 := by
    refine downN 4 (fun M1 h2 h3 h4 h5 => ?_) (fun i hi ih M1 h2 h3 h4 h5 => ?_)
    · exact sg_G_copyFrom_9_16_40 M1 _ (fun _ => loop3 0 (by decide) M1 (fun j hj => absurd hj (Nat.not_lt_zero j)) h2 h3 h4 h5) (fun c => absurd (by decide) c) (fun c => absurd (by decide) c)
    · refine sg_G_copyFrom_9_16_40 M1 _ (fun c => absurd c (Int32.not_le.mpr (nI_lt (b := 4) hi (by decide)))) (fun _ => vp_in_nI hi (by decide)) (fun _ => ?_)
      rw [nI_clamp (by omega), nI_1]
      refine ih _ (fun j hj => ?_) (fun j hj => by rw [wr_ne _ (by decide), wr_ne _ (by decide)]; exact h3 j hj) (fun q hq => by rw [wr_ne _ (by omega)]; exact h4 q hq) h5
      rw [upd_row, h4 19 (by decide)]
      by_cases e : j = i
      · rw [if_pos e, e]
      · rw [if_neg e]; exact h2 j (by omega)
  have loop1 : ∀ i, i ≤ 16 → ∀ M1 : Mem, (∀ j, j < i → M1.1 10 j = M.1 17 j ∧ M1.1 11 j = M.1 18 j) → (∀ q, q < 9 ∨ 15 < q → M1.1 q = M.1 q) → M1.2 = M.2 → WX mi_G_copyFrom 1 Q 2 [some (.ref 9), some (.ref 16), some (.int (nI i))] [] M1 := by
    refine downN 16 (fun M1 h3 h4 h5 => ?_) (fun i hi ih M1 h3 h4 h5 => ?_)
    · exact sg_G_copyFrom_9_16_2 M1 _ (fun _ => loop2 0 (by decide) M1 (fun j hj => absurd hj (Nat.not_lt_zero j)) h3 h4 h5) (fun c => absurd ge16 c) (fun c => absurd ge16 c)
    · refine sg_G_copyFrom_9_16_2 M1 _ (fun c => absurd c (lt16 hi)) (fun _ => vp_in_nI hi (by decide)) (fun _ => ?_)
      rw [nI_clamp (by omega), nI_1]
      refine ih _ (fun j hj => ?_) (fun q hq => by rw [wr_ne _ (by omega), wr_ne _ (by omega)]; exact h4 q hq) h5
      have f1 := congrFun (h4 17 (by decide)) i
      have f2 := congrFun (h4 18 (by decide)) i
      by_cases e : j = i
      · subst e; simp [wr, f1, f2]
      · have := h3 j (by omega)
        simp [wr, e, this]
  exact loop1 0 (by decide) M (fun j hj => absurd hj (Nat.not_lt_zero j)) (fun _ _ => rfl) rfl
theorem wx_copy_9_23 {p : Pl} {gh : Gh} {M : Mem} {Q : Option Value → Mem → Prop} (h : RCg 23 p gh M) (hl : gh.2.length ≤ 10) (hQ : ∀ M', RCg 9 p gh M' → (∀ q, q < 9 ∨ 15 < q → M'.1 q = M.1 q) → M'.2 = M.2 → Q none M') : WX mi_G_copyFrom 1 Q 0 [some (.ref 9), some (.ref 23), none] [] M := by
  obtain ⟨c1, c2, c3, c4, c5, c6, c7⟩ := h
  refine sg_G_copyFrom_9_23_0 M ?_
  have loop3 : ∀ i, i ≤ 10 → ∀ M1 : Mem, (∀ j, j < i → M1.1 13 j = M.1 27 j ∧ M1.1 14 j = M.1 28 j ∧ M1.1 15 j = M.1 29 j) → (∀ j, j < 4 → M1.1 12 j = M.1 26 j) → (∀ j, j < 16 → M1.1 10 j = M.1 24 j ∧ M1.1 11 j = M.1 25 j) → (∀ q, q < 9 ∨ 15 < q → M1.1 q = M.1 q) → M1.2 = M.2 → WX mi_G_copyFrom 1 Q 65 [some (.ref 9), some (.ref 23), some (.int (nI i))] [] M1 := by
    refine downN 10 (fun M1 h1 h2 h3 h4 h5 => ?_) (fun i hi ih M1 h1 h2 h3 h4 h5 => ?_)
    · refine sg_G_copyFrom_9_23_65 M1 _ (fun _ => ?_) (fun c => absurd (by decide) c) (fun c => absurd (by decide) c)
      refine hQ _ ⟨fun k hk ht => ?_, fun u hu => ?_, fun z hz => ?_, ?_, ?_, ?_, fun j e he => ?_⟩ (fun q hq => by rw [wr_ne _ (by omega), wr_ne _ (by omega), wr_ne _ (by omega)]; exact h4 q hq) h5
      · rw [wr_ne _ (by decide), wr_ne _ (by decide), wr_ne _ (by decide)]; exact (h3 k hk).1.trans (c1 k hk ht)
      · rw [wr_ne _ (by decide), wr_ne _ (by decide), wr_ne _ (by decide)]; exact (h3 u hu).2.trans (c2 u hu)
      · rw [wr_ne _ (by decide), wr_ne _ (by decide), wr_ne _ (by decide)]; exact (h2 z hz).trans (c3 z hz)
      · simp only [wr]; simp [h4]; exact c4
      · simp only [wr]; simp [h4]; exact c5
      · simp only [wr]; simp [h4]; exact c6
      · have hj : j < gh.2.length := (List.getElem?_eq_some_iff.mp he).1
        rw [wr_ne _ (by decide), wr_ne _ (by decide), wr_ne _ (by decide), wr_ne _ (by decide), wr_ne _ (by decide), wr_ne _ (by decide), wr_ne _ (by decide), wr_ne _ (by decide), wr_ne _ (by decide)]
        have hh := h1 (gh.2.length - 1 - j) (by omega)
        have := c7 j e he
        exact ⟨hh.1.trans this.1, hh.2.1.trans this.2.1, hh.2.2.trans this.2.2⟩
    · refine sg_G_copyFrom_9_23_65 M1 _ (fun c => absurd c (Int32.not_le.mpr (nI_lt (b := 10) hi (by decide)))) (fun _ => vp_in_nI hi (by decide)) (fun _ => ?_)
      rw [nI_clamp (by omega), nI_1]
      refine ih _ (fun j hj => ?_) (fun j hj => by rw [wr_ne _ (by decide), wr_ne _ (by decide), wr_ne _ (by decide)]; exact h2 j hj) (fun j hj => by rw [wr_ne _ (by decide), wr_ne _ (by decide), wr_ne _ (by decide), wr_ne _ (by decide), wr_ne _ (by decide), wr_ne _ (by decide)]; exact h3 j hj) (fun q hq => by rw [wr_ne _ (by omega), wr_ne _ (by omega), wr_ne _ (by omega)]; exact h4 q hq) h5
      have f4 := congrFun (h4 27 (by decide)) i
      have f5 := congrFun (h4 28 (by decide)) i
      have f6 := congrFun (h4 29 (by decide)) i
      by_cases e : j = i
      · subst e; simp [wr, f4, f5, f6]
      · have := h1 j (by omega)
        simp [wr, e, this]
  have loop2 : ∀ i, i ≤ 4 → ∀ M1 : Mem, (∀ j, j < i → M1.1 12 j = M.1 26 j) → (∀ j, j < 16 → M1.1 10 j = M.1 24 j ∧ M1.1 11 j = M.1 25 j) → (∀ q, q < 9 ∨ 15 < q → M1.1 q = M.1 q) → M1.2 = M.2 → WX mi_G_copyFrom 1 Q 40 [some (.ref 9), some (.ref 23), some (.int (nI i))] [] M1 := by
    refine downN 4 (fun M1 h2 h3 h4 h5 => ?_) (fun i hi ih M1 h2 h3 h4 h5 => ?_)
    · exact sg_G_copyFrom_9_23_40 M1 _ (fun _ => loop3 0 (by decide) M1 (fun j hj => absurd hj (Nat.not_lt_zero j)) h2 h3 h4 h5) (fun c => absurd (by decide) c) (fun c => absurd (by decide) c)
    · refine sg_G_copyFrom_9_23_40 M1 _ (fun c => absurd c (Int32.not_le.mpr (nI_lt (b := 4) hi (by decide)))) (fun _ => vp_in_nI hi (by decide)) (fun _ => ?_)
      rw [nI_clamp (by omega), nI_1]
      refine ih _ (fun j hj => ?_) (fun j hj => by rw [wr_ne _ (by decide), wr_ne _ (by decide)]; exact h3 j hj) (fun q hq => by rw [wr_ne _ (by omega)]; exact h4 q hq) h5
      rw [upd_row, h4 26 (by decide)]
      by_cases e : j = i
      · rw [if_pos e, e]
      · rw [if_neg e]; exact h2 j (by omega)
  have loop1 : ∀ i, i ≤ 16 → ∀ M1 : Mem, (∀ j, j < i → M1.1 10 j = M.1 24 j ∧ M1.1 11 j = M.1 25 j) → (∀ q, q < 9 ∨ 15 < q → M1.1 q = M.1 q) → M1.2 = M.2 → WX mi_G_copyFrom 1 Q 2 [some (.ref 9), some (.ref 23), some (.int (nI i))] [] M1 := by
    refine downN 16 (fun M1 h3 h4 h5 => ?_) (fun i hi ih M1 h3 h4 h5 => ?_)
    · exact sg_G_copyFrom_9_23_2 M1 _ (fun _ => loop2 0 (by decide) M1 (fun j hj => absurd hj (Nat.not_lt_zero j)) h3 h4 h5) (fun c => absurd ge16 c) (fun c => absurd ge16 c)
    · refine sg_G_copyFrom_9_23_2 M1 _ (fun c => absurd c (lt16 hi)) (fun _ => vp_in_nI hi (by decide)) (fun _ => ?_)
      rw [nI_clamp (by omega), nI_1]
      refine ih _ (fun j hj => ?_) (fun q hq => by rw [wr_ne _ (by omega), wr_ne _ (by omega)]; exact h4 q hq) h5
      have f1 := congrFun (h4 24 (by decide)) i
      have f2 := congrFun (h4 25 (by decide)) i
      by_cases e : j = i
      · subst e; simp [wr, f1, f2]
      · have := h3 j (by omega)
        simp [wr, e, this]
  exact loop1 0 (by decide) M (fun j hj => absurd hj (Nat.not_lt_zero j)) (fun _ _ => rfl) rfl
theorem RMg.move {o o' : Nat} {p : Pl} {gh : Gh} {f f' : Nat → Int32} (h : RMg o p gh f) (hl : gh.2.length ≤ 10) (he : ∀ j, j < 419 → f' (o' + j) = f (o + j)) : RMg o' p gh f' := by
  refine ⟨blk_congr h.1 (fun k hk => he k (by omega)), by rw [he 38 (by decide)]; exact h.2.1, fun j e hj => ?_⟩
  have hj' : j < gh.2.length := (List.getElem?_eq_some_iff.mp hj).1
  refine blk_congr (h.2.2 j e hj) (fun k hk => ?_)
  have := he (39 + 38 * (gh.2.length - 1 - j) + k) (by omega)
  rw [show o' + 39 + 38 * (gh.2.length - 1 - j) + k = o' + (39 + 38 * (gh.2.length - 1 - j) + k) by omega, show o + 39 + 38 * (gh.2.length - 1 - j) + k = o + (39 + 38 * (gh.2.length - 1 - j) + k) by omega]
  exact this
theorem at419 : ∀ k, k < 2 → (419 : Int32) * (1 + nI k) = nI (419 + 419 * k) := by decide +kernel
theorem wx_keepM {k : Nat} (hk : k < 2) {M : Mem} {Q : Option Value → Mem → Prop} (hQ : ∀ M', (∀ j, M'.1 46 j = if 419 + 419 * k ≤ j ∧ j < 838 + 419 * k then M.1 46 (j - (419 + 419 * k)) else M.1 46 j) → (∀ j, M'.1 47 j = if j = k then 1 else M.1 47 j) → (∀ q, q ≠ 46 → q ≠ 47 → M'.1 q = M.1 q) → M'.2 = M.2 → Q (some (.int (M.1 46 37))) M') : WX mi_M_keep 2 Q 13 [some (.ref 37), some (.int (nI k)), some (.int 0)] [] M := by
  have loop : ∀ i, i ≤ 419 → ∀ M1 : Mem, (∀ j, M1.1 46 j = if 419 + 419 * k ≤ j ∧ j < 419 + 419 * k + i then M.1 46 (j - (419 + 419 * k)) else M.1 46 j) → (∀ q, q ≠ 46 → M1.1 q = M.1 q) → M1.2 = M.2 → WX mi_M_keep 2 Q 13 [some (.ref 37), some (.int (nI k)), some (.int (nI i))] [] M1 := by
    refine downN 419 (fun M1 h1 h2 h3 => ?_) (fun i hi ih M1 h1 h2 h3 => ?_)
    · refine sg_M_keep_37_13 M1 _ _ (fun _ => vp_in_nI hk (by decide)) (fun _ => ?_) (fun c => absurd (by decide) c) (fun c => absurd (by decide) c) (fun c => absurd (by decide) c)
      rw [nI_clamp (by omega), h1 37, if_neg (by omega)]
      refine hQ _ (fun j => ?_) (fun j => by rw [upd_row, h2 47 (by decide)]; rfl) (fun q a b => by rw [wr_ne _ b]; exact h2 q a) h3
      rw [wr_ne _ (by decide), h1, show 419 + 419 * k + 419 = 838 + 419 * k by omega]
    · have e : ((419 : Int32) * (1 + nI k)) + nI i = nI (419 + 419 * k + i) := by rw [at419 k hk, nI_add]
      refine sg_M_keep_37_13 M1 _ _ (fun _ => vp_in_nI hk (by decide)) (fun c => absurd c (Int32.not_le.mpr (nI_lt (b := 419) hi (by decide)))) (fun _ => vp_in_nI (by omega) (by decide)) (fun _ => by rw [e]; exact vp_in_nI (by omega) (by decide)) (fun _ => ?_)
      rw [e, nI_clamp (by omega), nI_clamp (by omega), nI_1]
      refine ih _ (fun j => ?_) (fun q hq => by rw [wr_ne _ hq]; exact h2 q hq) h3
      have ei := h1 i
      rw [if_neg (by omega)] at ei
      rw [upd_row, ei]
      by_cases hj : j = 419 + 419 * k + i
      · rw [if_pos hj, if_pos (by omega)]
        exact congrArg (M.1 46) (by omega)
      · rw [if_neg hj, h1]
        by_cases hc : 419 + 419 * k ≤ j ∧ j < 419 + 419 * k + i
        · rw [if_pos hc, if_pos (by omega)]
        · rw [if_neg hc, if_neg (by omega)]
  exact loop 0 (by decide) M (fun j => by rw [if_neg (by omega)]) (fun _ _ => rfl) rfl
theorem wx_backM {k : Nat} (hk : k < 2) {M : Mem} {Q : Option Value → Mem → Prop} (hQ : ∀ M', (∀ j, M'.1 46 j = if j < 419 then M.1 46 (419 + 419 * k + j) else M.1 46 j) → (∀ q, q ≠ 46 → M'.1 q = M.1 q) → M'.2 = M.2 → Q (some (.int (M'.1 46 37))) M') : WX mi_M_back 2 Q 25 [some (.ref 37), some (.int (nI k)), some (.int 0)] [] M := by
  have loop : ∀ i, i ≤ 419 → ∀ M1 : Mem, (∀ j, M1.1 46 j = if j < i then M.1 46 (419 + 419 * k + j) else M.1 46 j) → (∀ q, q ≠ 46 → M1.1 q = M.1 q) → M1.2 = M.2 → WX mi_M_back 2 Q 25 [some (.ref 37), some (.int (nI k)), some (.int (nI i))] [] M1 := by
    refine downN 419 (fun M1 h1 h2 h3 => ?_) (fun i hi ih M1 h1 h2 h3 => ?_)
    · exact sg_M_back_37_25 M1 _ _ (fun _ => hQ M1 h1 h2 h3) (fun c => absurd (by decide) c) (fun c => absurd (by decide) c) (fun c => absurd (by decide) c)
    · have e : ((419 : Int32) * (1 + nI k)) + nI i = nI (419 + 419 * k + i) := by rw [at419 k hk, nI_add]
      refine sg_M_back_37_25 M1 _ _ (fun c => absurd c (Int32.not_le.mpr (nI_lt (b := 419) hi (by decide)))) (fun _ => by rw [e]; exact vp_in_nI (by omega) (by decide)) (fun _ => vp_in_nI (by omega) (by decide)) (fun _ => ?_)
      rw [e, nI_clamp (by omega), nI_clamp (by omega), nI_1]
      refine ih _ (fun j => ?_) (fun q hq => by rw [wr_ne _ hq]; exact h2 q hq) h3
      have ei := h1 (419 + 419 * k + i)
      rw [if_neg (by omega)] at ei
      rw [upd_row, ei]
      by_cases hj : j = i
      · rw [if_pos hj, if_pos (by omega), hj]
      · rw [if_neg hj, h1]
        by_cases hc : j < i
        · rw [if_pos hc, if_pos (show j < i + 1 by omega)]
        · rw [if_neg hc, if_neg (show ¬ j < i + 1 by omega)]
  exact loop 0 (by decide) M (fun j => by rw [if_neg (by omega)]) (fun _ _ => rfl) rfl
theorem RC.img {t : List Nat} {p : Pl} {gh : Gh} {im im' : Option Gh × Option Gh} {sn : List Nat} {tr : Int64} {M M' : Mem} (h : RC (t, p, gh, im, sn, tr) M) (hf : ∀ q, q ≠ 0 → q < 16 ∨ 29 < q → M'.1 q = M.1 q) (h0 : ∀ k, k ≠ 8 → M'.1 0 k = M.1 0 k) (h2 : M'.2 = M.2) (hg : RCi p im' M') : RC (t, p, gh, im', sn, tr) M' ∧ FrC M M' := by
  obtain ⟨g1, g2, g3, g4, g5, g6⟩ := h
  refine ⟨⟨?_, ?_, ?_, hg, ?_, by rw [h2]; exact g6⟩, fun q hq => hf q (by omega) (by omega), by rw [h2]⟩
  · unfold RCt at g1 ⊢; rw [hf 1 (by decide) (by decide), hf 2 (by decide) (by decide)]; exact g1
  · unfold RCp at g2 ⊢; rw [hf 6 (by decide) (by decide)]; exact g2
  · unfold RCg at g3 ⊢
    rw [hf 9 (by decide) (by decide), hf (9 + 1) (by decide) (by decide), hf (9 + 2) (by decide) (by decide), hf (9 + 3) (by decide) (by decide), hf (9 + 4) (by decide) (by decide), hf (9 + 5) (by decide) (by decide), hf (9 + 6) (by decide) (by decide)]
    exact g3
  · unfold RCs at g5 ⊢; rw [h0 9 (by decide), h0 10 (by decide)]; exact g5
theorem RM.img {t : List Nat} {p : Pl} {gh : Gh} {im im' : Option Gh × Option Gh} {sn : List Nat} {tr : Int64} {M M' : Mem} (h : RM (t, p, gh, im, sn, tr) M) (hl : gh.2.length ≤ 10) (hf : ∀ q, q ≠ 46 → q ≠ 47 → M'.1 q = M.1 q) (hj : ∀ j, j < 419 → M'.1 46 j = M.1 46 j) (h2 : M'.2 = M.2) (hg : RMi p im' M') : RM (t, p, gh, im', sn, tr) M' ∧ FrM M M' := by
  obtain ⟨g1, g2, g3, g4, g5, g6⟩ := h
  refine ⟨⟨?_, ?_, ?_, hg, ?_, by rw [h2]; exact g6⟩, fun q hq => hf q (by omega) (by omega), by rw [h2]⟩
  · unfold RMt at g1 ⊢; rw [hf 37 (by decide) (by decide), hf 38 (by decide) (by decide)]; exact g1
  · unfold RMp at g2 ⊢; rw [hf 39 (by decide) (by decide), hf 40 (by decide) (by decide), hf 41 (by decide) (by decide), hf 42 (by decide) (by decide), hf 43 (by decide) (by decide)]; exact g2
  · exact g3.move hl (fun j hj' => by rw [Nat.zero_add]; exact hj j hj')
  · unfold RMs at g5 ⊢; rw [hf 37 (by decide) (by decide), hf 55 (by decide) (by decide)]; exact g5
theorem two_iff (x : Int32) : (¬ x < 0 ∧ x < 2) ↔ (0 ≤ x ∧ x ≤ 1) := by
  rw [Int32.not_lt, Int32.le_iff_toInt_le, Int32.lt_iff_toInt_lt, Int32.le_iff_toInt_le, show (0 : Int32).toInt = 0 from rfl, show (2 : Int32).toInt = 2 from rfl, show (1 : Int32).toInt = 1 from rfl]
  omega
theorem in_iff1 (x : Int32) : ¬ z_M_in x 0 1 = 0 ↔ (0 ≤ x ∧ x ≤ 1) := by
  rw [in_bI, bI_0]
  simp
theorem a_keep (x : Int32) : Agr Inv mi_C_keep mi_M_keep 2 2 [.int x] := by
  refine agr_of (fun i s M hw hc hm => ?_)
  obtain ⟨t, p, gh, im, sn, tr⟩ := s
  have hup := hw.up (show 20 + i ≤ 20 + (i + 1) by omega)
  have hcg : RCg 9 p gh M := hc.2.2.1
  have hl : gh.2.length ≤ 10 := hw.2.2.1.2.2
  have hdy : M.1 9 4 = nI (gDy gh.1) := hcg.2.2.2.2.1
  by_cases hx : 0 ≤ x ∧ x ≤ 1
  · obtain ⟨k, hk, rfl⟩ := nI_of2 (n := 1) (by decide) (Int32.not_lt.mpr hx.1) hx.2
    have t1 := ((two_iff _).mpr hx)
    have ek : k = 0 ∨ k = 1 := by omega
    rcases ek with rfl | rfl
    · refine ⟨nI (gDy gh.1), (t, p, gh, (some gh, im.2), sn, tr), ⟨hup.1, hup.2.1, hup.2.2.1, fun gh' e => (by cases e; exact hup.2.2.1), hup.2.2.2.2.1, hup.2.2.2.2.2⟩, fun Q hQ => ?_, fun M1 Q hm1 hQ => ?_⟩
      · refine sg_C_keep_0_0 M _ (fun c => absurd c t1.1) (fun _ _ => ?_) (fun _ c => absurd t1.2 c)
        refine sg_C_imageOf_0_0 M _ (fun c => absurd rfl c) (fun _ => ?_)
        refine sg_C_keep_0_16r16 M _ ?_
        refine wx_copy_16_9 hcg hl (fun M1 r1 r2 r3 => ?_)
        refine sg_C_keep_0_23 M1 _ ?_
        have e8 : M1.1 0 8 ||| shl 1 (nI 0) = sI (fun k => (decide (k = 0) && (some gh : Option Gh).isSome) || (decide (k = 1) && im.2.isSome)) := by
          rw [r2 0 (by decide), hc.2.2.2.1.1, sI_one (by decide), sI_or]
          exact sI_ext fun k _ => by cases decide (k = 0) <;> simp
        rw [e8, show M1.1 9 4 = nI (gDy gh.1) by rw [r2 9 (by decide)]; exact hdy]
        have ra := RC.img (im' := (some gh, im.2)) (M' := wr M1 0 8 (sI (fun k => (decide (k = 0) && (some gh : Option Gh).isSome) || (decide (k = 1) && im.2.isSome)))) hc (fun q a b => by rw [wr_ne _ a]; exact r2 q (by omega)) (fun k hk => by rw [upd_row, if_neg hk, r2 0 (by decide)]) r3 ?_
        · exact hQ _ ra.1 ra.2
        · refine ⟨by rw [upd_row, if_pos rfl], fun gh' e => ?_, fun gh' e => ?_⟩
          · cases e
            unfold RCg at r1 ⊢
            simpa [wr] using r1
          · have := hc.2.2.2.1.2.2 gh' e
            unfold RCg at this ⊢
            rw [wr_ne _ (by decide), wr_ne _ (by decide), wr_ne _ (by decide), wr_ne _ (by decide), wr_ne _ (by decide), wr_ne _ (by decide), wr_ne _ (by decide), r2 23 (by decide), r2 (23 + 1) (by decide), r2 (23 + 2) (by decide), r2 (23 + 3) (by decide), r2 (23 + 4) (by decide), r2 (23 + 5) (by decide), r2 (23 + 6) (by decide)]
            exact this
      · refine sg_M_keep_37_0 M1 _ (fun _ => ?_) (fun c => absurd c ((in_iff1 _).mpr hx))
        refine wx_keepM (by decide) (fun M2 r1 r2 r3 r4 => ?_)
        rw [hm1.dy]
        have ra := RM.img (im' := (some gh, im.2)) (M' := M2) hm1 hl r3 (fun j hj => by rw [r1, if_neg (by omega)]) r4 ?_
        · exact hQ _ ra.1 ra.2
        · obtain ⟨k1, k2, k3, k4⟩ := hm1.2.2.2.1
          refine ⟨by rw [r2, if_pos rfl]; rfl, by rw [r2, if_neg (by decide)]; exact k2, fun gh' e => ?_, fun gh' e => ?_⟩
          · cases e
            refine hm1.2.2.1.move hl (fun j hj => ?_)
            rw [r1, if_pos (by omega)]
            exact congrArg (M1.1 46) (by omega)
          · exact (k4 gh' e).tail (fun j hj => by rw [r1, if_neg (by omega)])
    · refine ⟨nI (gDy gh.1), (t, p, gh, (im.1, some gh), sn, tr), ⟨hup.1, hup.2.1, hup.2.2.1, hup.2.2.2.1, fun gh' e => (by cases e; exact hup.2.2.1), hup.2.2.2.2.2⟩, fun Q hQ => ?_, fun M1 Q hm1 hQ => ?_⟩
      · refine sg_C_keep_0_0 M _ (fun c => absurd c t1.1) (fun _ _ => ?_) (fun _ c => absurd t1.2 c)
        refine sg_C_imageOf_0_0 M _ (fun _ => ?_) (fun c => absurd c (by decide))
        refine sg_C_keep_0_16r23 M _ ?_
        refine wx_copy_23_9 hcg hl (fun M1 r1 r2 r3 => ?_)
        refine sg_C_keep_0_23 M1 _ ?_
        have e8 : M1.1 0 8 ||| shl 1 (nI 1) = sI (fun k => (decide (k = 0) && im.1.isSome) || (decide (k = 1) && (some gh : Option Gh).isSome)) := by
          rw [r2 0 (by decide), hc.2.2.2.1.1, sI_one (by decide), sI_or]
          exact sI_ext fun k _ => by cases decide (k = 1) <;> simp
        rw [e8, show M1.1 9 4 = nI (gDy gh.1) by rw [r2 9 (by decide)]; exact hdy]
        have ra := RC.img (im' := (im.1, some gh)) (M' := wr M1 0 8 (sI (fun k => (decide (k = 0) && im.1.isSome) || (decide (k = 1) && (some gh : Option Gh).isSome)))) hc (fun q a b => by rw [wr_ne _ a]; exact r2 q (by omega)) (fun k hk => by rw [upd_row, if_neg hk, r2 0 (by decide)]) r3 ?_
        · exact hQ _ ra.1 ra.2
        · refine ⟨by rw [upd_row, if_pos rfl], fun gh' e => ?_, fun gh' e => ?_⟩
          · have := hc.2.2.2.1.2.1 gh' e
            unfold RCg at this ⊢
            rw [wr_ne _ (by decide), wr_ne _ (by decide), wr_ne _ (by decide), wr_ne _ (by decide), wr_ne _ (by decide), wr_ne _ (by decide), wr_ne _ (by decide), r2 16 (by decide), r2 (16 + 1) (by decide), r2 (16 + 2) (by decide), r2 (16 + 3) (by decide), r2 (16 + 4) (by decide), r2 (16 + 5) (by decide), r2 (16 + 6) (by decide)]
            exact this
          · cases e
            unfold RCg at r1 ⊢
            simpa [wr] using r1
      · refine sg_M_keep_37_0 M1 _ (fun _ => ?_) (fun c => absurd c ((in_iff1 _).mpr hx))
        refine wx_keepM (by decide) (fun M2 r1 r2 r3 r4 => ?_)
        rw [hm1.dy]
        have ra := RM.img (im' := (im.1, some gh)) (M' := M2) hm1 hl r3 (fun j hj => by rw [r1, if_neg (by omega)]) r4 ?_
        · exact hQ _ ra.1 ra.2
        · obtain ⟨k1, k2, k3, k4⟩ := hm1.2.2.2.1
          refine ⟨by rw [r2, if_neg (by decide)]; exact k1, by rw [r2, if_pos rfl]; rfl, fun gh' e => ?_, fun gh' e => ?_⟩
          · refine (k3 gh' e).move (hw.2.2.2.1 gh' e).2.2 (fun j hj => by rw [r1, if_neg (by omega)])
          · cases e
            refine hm1.2.2.1.move hl (fun j hj => ?_)
            rw [r1, if_pos (by omega)]
            exact congrArg (M1.1 46) (by omega)
  · refine ⟨-1, (t, p, gh, im, sn, tr), hup, fun Q hQ => ?_, fun M1 Q hm1 hQ => ?_⟩
    · have hd := hQ M hc (FrC.refl M)
      exact sg_C_keep_0_0 M _ (fun _ => hd) (fun c1 c2 => absurd ((two_iff x).mp ⟨c1, c2⟩) hx) (fun _ _ => hd)
    · have hd := hQ M1 hm1 (FrM.refl M1)
      exact sg_M_keep_37_0 M1 _ (fun c => absurd ((in_iff1 x).mp c) hx) (fun _ => hd)
theorem a_back (x : Int32) : Agr Inv mi_C_back mi_M_back 2 2 [.int x] := by
  refine agr_of (fun i s M hw hc hm => ?_)
  obtain ⟨t, p, gh, im, sn, tr⟩ := s
  have hup := hw.up (show 20 + i ≤ 20 + (i + 1) by omega)
  by_cases hx : 0 ≤ x ∧ x ≤ 1
  · have t1 := ((two_iff _).mpr hx)
    have ei := (in_iff1 _).mpr hx
    obtain ⟨k, hk, rfl⟩ := nI_of2 (n := 1) (by decide) (Int32.not_lt.mpr hx.1) hx.2
    have ek : k = 0 ∨ k = 1 := by omega
    have hb : vp_in (nI k) 2 := vp_in_nI (by omega) (by decide)
    rcases ek with rfl | rfl
    · have hhold : z_C_holds (M.1 0 8) (nI 0) = bI im.1.isSome := by
        rw [hc.2.2.2.1.1, holds_sI (by decide)]
        cases im.1 <;> cases im.2 <;> rfl
      cases hs : im.1 with
      | none =>
        refine ⟨-2, (t, p, gh, im, sn, tr), hup, fun Q hQ => ?_, fun M1 Q hm1 hQ => ?_⟩
        · refine sg_C_back_0_0 M _ (fun c => absurd c t1.1) (fun _ _ c => ?_) (fun _ _ _ => hQ M hc (FrC.refl M)) (fun _ c => absurd t1.2 c)
          rw [hhold, hs] at c
          exact absurd rfl c
        · refine sg_M_back_37_0 M1 _ (fun _ => hb) (fun _ c => ?_) (fun _ _ => hQ M1 hm1 (FrM.refl M1)) (fun c => absurd c ei)
          rw [nI_clamp (by omega), show M1.1 47 0 = bI (none : Option Gh).isSome by rw [← hs]; exact hm1.2.2.2.1.1] at c
          exact absurd rfl c
      | some gh' =>
        have hwf : WfH (20 + i) p gh' := hw.2.2.2.1 gh' hs
        refine ⟨nI (gDy gh'.1), (t, p, gh', im, sn, tr), WfS.act (by omega) hw (hwf.up (by omega)), fun Q hQ => ?_, fun M1 Q hm1 hQ => ?_⟩
        · refine sg_C_back_0_0 M _ (fun c => absurd c t1.1) (fun _ _ _ => ?_) (fun _ _ c => ?_) (fun _ c => absurd t1.2 c)
          · refine sg_C_imageOf_0_0 M _ (fun c => absurd rfl c) (fun _ => ?_)
            refine sg_C_back_0_34r16 M _ ?_
            refine wx_copy_9_16 (hc.2.2.2.1.2.1 gh' hs) hwf.2.2 (fun M1 r1 r2 r3 => ?_)
            refine sg_C_back_0_37 M1 _ ?_
            rw [show M1.1 9 4 = nI (gDy gh'.1) from r1.2.2.2.2.1]
            have ra := RC.act (gh' := gh') (M' := M1) hc (fun q hq => r2 q (by omega)) r3 r1
            exact hQ _ ra.1 ra.2
          · rw [hhold, hs] at c
            exact absurd c (show ¬ (1 : Int32) = 0 by decide)
        · refine sg_M_back_37_0 M1 _ (fun _ => hb) (fun _ _ => ?_) (fun _ c => ?_) (fun c => absurd c ei)
          · refine wx_backM (by decide) (fun M2 r1 r2 r3 => ?_)
            have ra := RM.act (gh' := gh') (M' := M2) hm1 r2 (fun j hj => by rw [r1, if_neg (by omega)]) r3 (RMg.move (hm1.2.2.2.1.2.2.1 gh' hs) hwf.2.2 (fun j hj => by rw [r1, if_pos (by omega)]; exact congrArg (M1.1 46) (by omega)))
            rw [ra.1.dy]
            exact hQ _ ra.1 ra.2
          · rw [nI_clamp (by omega), show M1.1 47 0 = bI (some gh').isSome by rw [← hs]; exact hm1.2.2.2.1.1] at c
            exact absurd c (show ¬ (1 : Int32) = 0 by decide)
    · have hhold : z_C_holds (M.1 0 8) (nI 1) = bI im.2.isSome := by
        rw [hc.2.2.2.1.1, holds_sI (by decide)]
        cases im.1 <;> cases im.2 <;> rfl
      cases hs : im.2 with
      | none =>
        refine ⟨-2, (t, p, gh, im, sn, tr), hup, fun Q hQ => ?_, fun M1 Q hm1 hQ => ?_⟩
        · refine sg_C_back_0_0 M _ (fun c => absurd c t1.1) (fun _ _ c => ?_) (fun _ _ _ => hQ M hc (FrC.refl M)) (fun _ c => absurd t1.2 c)
          rw [hhold, hs] at c
          exact absurd rfl c
        · refine sg_M_back_37_0 M1 _ (fun _ => hb) (fun _ c => ?_) (fun _ _ => hQ M1 hm1 (FrM.refl M1)) (fun c => absurd c ei)
          rw [nI_clamp (by omega), show M1.1 47 1 = bI (none : Option Gh).isSome by rw [← hs]; exact hm1.2.2.2.1.2.1] at c
          exact absurd rfl c
      | some gh' =>
        have hwf : WfH (20 + i) p gh' := hw.2.2.2.2.1 gh' hs
        refine ⟨nI (gDy gh'.1), (t, p, gh', im, sn, tr), WfS.act (by omega) hw (hwf.up (by omega)), fun Q hQ => ?_, fun M1 Q hm1 hQ => ?_⟩
        · refine sg_C_back_0_0 M _ (fun c => absurd c t1.1) (fun _ _ _ => ?_) (fun _ _ c => ?_) (fun _ c => absurd t1.2 c)
          · refine sg_C_imageOf_0_0 M _ (fun _ => ?_) (fun c => absurd c (by decide))
            refine sg_C_back_0_34r23 M _ ?_
            refine wx_copy_9_23 (hc.2.2.2.1.2.2 gh' hs) hwf.2.2 (fun M1 r1 r2 r3 => ?_)
            refine sg_C_back_0_37 M1 _ ?_
            rw [show M1.1 9 4 = nI (gDy gh'.1) from r1.2.2.2.2.1]
            have ra := RC.act (gh' := gh') (M' := M1) hc (fun q hq => r2 q (by omega)) r3 r1
            exact hQ _ ra.1 ra.2
          · rw [hhold, hs] at c
            exact absurd c (show ¬ (1 : Int32) = 0 by decide)
        · refine sg_M_back_37_0 M1 _ (fun _ => hb) (fun _ _ => ?_) (fun _ c => ?_) (fun c => absurd c ei)
          · refine wx_backM (by decide) (fun M2 r1 r2 r3 => ?_)
            have ra := RM.act (gh' := gh') (M' := M2) hm1 r2 (fun j hj => by rw [r1, if_neg (by omega)]) r3 (RMg.move (hm1.2.2.2.1.2.2.2 gh' hs) hwf.2.2 (fun j hj => by rw [r1, if_pos (by omega)]; exact congrArg (M1.1 46) (by omega)))
            rw [ra.1.dy]
            exact hQ _ ra.1 ra.2
          · rw [nI_clamp (by omega), show M1.1 47 1 = bI (some gh').isSome by rw [← hs]; exact hm1.2.2.2.1.2.1] at c
            exact absurd c (show ¬ (1 : Int32) = 0 by decide)
  · refine ⟨-1, (t, p, gh, im, sn, tr), hup, fun Q hQ => ?_, fun M1 Q hm1 hQ => ?_⟩
    · have hd := hQ M hc (FrC.refl M)
      exact sg_C_back_0_0 M _ (fun _ => hd) (fun c1 c2 _ => absurd ((two_iff x).mp ⟨c1, c2⟩) hx) (fun c1 c2 _ => absurd ((two_iff x).mp ⟨c1, c2⟩) hx) (fun _ _ => hd)
    · have hd := hQ M1 hm1 (FrM.refl M1)
      exact sg_M_back_37_0 M1 _ (fun c => absurd ((in_iff1 x).mp c) hx) (fun c _ => absurd ((in_iff1 x).mp c) hx) (fun c _ => absurd ((in_iff1 x).mp c) hx) (fun _ => hd)
