/-! ===== yard: the class's, whole ===== -/
theorem wx_wipe {M : Mem} {Q : Option Value → Mem → Prop} (hQ : ∀ M', (M'.1 3 0 = 0 ∧ M'.1 3 1 = 0 ∧ M'.1 3 2 = 0 ∧ M'.1 3 3 = 0 ∧ M'.1 3 4 = 0) → (∀ k, k < 16 → M'.1 4 k = 0) → (∀ z, z < 4 → M'.1 5 z = 4) → FD M M' → M'.1 1 = M.1 1 → Q none M') : WX mi_L_wipe 1 Q 0 [some (.ref 3), none] [] M := by
  refine sg_L_wipe_3_0 M ?_
  have loop2 : ∀ u, u ≤ 4 → ∀ M1 : Mem, (M1.1 3 0 = 0 ∧ M1.1 3 1 = 0 ∧ M1.1 3 2 = 0 ∧ M1.1 3 3 = 0 ∧ M1.1 3 4 = 0) → (∀ k, k < 16 → M1.1 4 k = 0) → (∀ z, z < u → M1.1 5 z = 4) → FD M M1 → M1.1 1 = M.1 1 → WX mi_L_wipe 1 Q 48 [some (.ref 3), some (.int (nI u))] [] M1 := by
    have g4 : (4 : Int32) ≤ nI 4 := by decide
    refine downN 4 (fun M1 e1 e2 e3 e4 e5 => ?_) (fun u hu ih M1 e1 e2 e3 e4 e5 => ?_)
    · exact sg_L_wipe_3_48 M1 _ (fun _ => hQ M1 e1 e2 e3 e4 e5) (fun c => absurd g4 c) (fun c => absurd g4 c)
    · refine sg_L_wipe_3_48 M1 _ (fun c => absurd c (Int32.not_le.mpr (nI_lt (b := 4) hu (by decide)))) (fun _ => vp_in_nI hu (by decide)) (fun _ => ?_)
      rw [nI_1, nI_clamp (by omega)]
      refine ih _ (by rw [wr_ne _ (by decide)]; exact e1) (fun k hk => by rw [wr_ne _ (by decide)]; exact e2 k hk) (fun k hk => ?_) (e4.s3 ⟨by decide, by decide⟩ _ _) (by rw [wr_ne _ (by decide)]; exact e5)
      rw [upd_row]
      by_cases q : k = u
      · rw [if_pos q]
      · rw [if_neg q]; exact e3 k (by omega)
  have loop1 : ∀ u, u ≤ 16 → ∀ M1 : Mem, (M1.1 3 0 = 0 ∧ M1.1 3 1 = 0 ∧ M1.1 3 2 = 0 ∧ M1.1 3 3 = 0 ∧ M1.1 3 4 = 0) → (∀ k, k < u → M1.1 4 k = 0) → FD M M1 → M1.1 1 = M.1 1 → WX mi_L_wipe 1 Q 27 [some (.ref 3), some (.int (nI u))] [] M1 := by
    refine downN 16 (fun M1 e1 e2 e4 e5 => ?_) (fun u hu ih M1 e1 e2 e4 e5 => ?_)
    · refine sg_L_wipe_3_27 M1 _ (fun _ => ?_) (fun c => absurd ge16 c) (fun c => absurd ge16 c)
      exact loop2 0 (by decide) M1 e1 e2 (fun k hk => absurd hk (Nat.not_lt_zero k)) e4 e5
    · refine sg_L_wipe_3_27 M1 _ (fun c => absurd c (lt16 hu)) (fun _ => vp_in_nI hu (by decide)) (fun _ => ?_)
      rw [nI_1, nI_clamp (by omega)]
      refine ih _ (by rw [wr_ne _ (by decide)]; exact e1) (fun k hk => ?_) (e4.s3 ⟨by decide, by decide⟩ _ _) (by rw [wr_ne _ (by decide)]; exact e5)
      rw [upd_row]
      by_cases q : k = u
      · rw [if_pos q]
      · rw [if_neg q]; exact e2 k (by omega)
  refine loop1 0 (by decide) _ ⟨by simp [wr], by simp [wr], by simp [wr], by simp [wr], by simp [wr]⟩ (fun k hk => absurd hk (Nat.not_lt_zero k)) ((((((FD.refl M).s3 ⟨by decide, by decide⟩ _ _).s3 ⟨by decide, by decide⟩ _ _).s3 ⟨by decide, by decide⟩ _ _).s3 ⟨by decide, by decide⟩ _ _).s3 ⟨by decide, by decide⟩ _ _) (by rw [wr_ne _ (by decide), wr_ne _ (by decide), wr_ne _ (by decide), wr_ne _ (by decide), wr_ne _ (by decide)])
theorem wx_readAll {t : List Nat} (ht : Txt t) {M : Mem} {Q : Option Value → Mem → Prop} (hr : RCt t M) (hQ : OutA Q M (parF t 151 0 0 drN)) : WX mi_R_readAll 6 Q 0 [some (.ref 1), none] [] M := by
  refine sg_R_readAll_1_0 M ?_
  refine wx_wipe (fun M1 e1 e2 e3 e4 e5 => ?_)
  refine sg_R_readAll_1_7 M1 ?_
  have f1 : FD M (wr (wr (wr (wr M1 1 3 0) 1 7 0) 1 8 0) 1 9 0) := (((e4.s1 (by decide) _).s1 (by decide) _).s1 (by decide) _).s1 (by decide) _
  refine all_C ht 151 0 0 drN _ rfl (Nat.le_refl _) (Nat.zero_le _) wfd_0 (fun _ => ⟨rfl, fun _ => ⟨rfl, rfl⟩⟩) (hr.fd f1) ?_ ?_ f1 hQ
  · rw [upd_row, if_neg (by decide), upd_row, if_neg (by decide), upd_row, if_neg (by decide), upd_row, if_pos rfl]; rfl
  · obtain ⟨a1, a2, a3, a4, a5⟩ := e1
    have q : ∀ r k, r ≠ 1 → (wr (wr (wr (wr M1 1 3 0) 1 7 0) 1 8 0) 1 9 0).1 r k = M1.1 r k := fun r k h => by rw [wr_ne _ h, wr_ne _ h, wr_ne _ h, wr_ne _ h]
    refine ⟨⟨?_, ?_, ?_, ?_, ?_⟩, fun k hk => ?_, fun k hk => ?_, ?_, ?_, ?_⟩
    · rw [q 3 0 (by decide)]; exact a1
    · rw [q 3 1 (by decide)]; exact a2
    · rw [q 3 2 (by decide)]; exact a3
    · rw [q 3 3 (by decide), a4]; exact sI_none.symm
    · rw [q 3 4 (by decide), a5]; exact sI_none.symm
    · rw [q 4 k (by decide)]; exact e2 k hk
    · rw [q 5 k (by decide)]; exact e3 k hk
    · rw [upd_row, if_neg (by decide), upd_row, if_neg (by decide), upd_row, if_pos rfl]; rfl
    · rw [upd_row, if_neg (by decide), upd_row, if_pos rfl]; rfl
    · rw [upd_row, if_pos rfl]; rfl
theorem wx_copyTold {M : Mem} {Q : Option Value → Mem → Prop} (hQ : ∀ M', (∀ k, k < 5 → M'.1 6 k = M.1 3 k) → (∀ k, k < 16 → M'.1 7 k = M.1 4 k) → (∀ z, z < 4 → M'.1 8 z = M.1 5 z) → (∀ q, q ≠ 6 → q ≠ 7 → q ≠ 8 → M'.1 q = M.1 q) → M'.2 = M.2 → Q none M') : WX mi_L_copyFrom 1 Q 0 [some (.ref 6), some (.ref 3), none] [] M := by
  refine sg_L_copyFrom_6_3_0 M ?_
  have loop2 : ∀ u, u ≤ 4 → ∀ M1 : Mem, (∀ k, k < 5 → M1.1 6 k = M.1 3 k) → (∀ k, k < 16 → M1.1 7 k = M.1 4 k) → (∀ z, z < u → M1.1 8 z = M.1 5 z) → (∀ q, q ≠ 6 → q ≠ 7 → q ≠ 8 → M1.1 q = M.1 q) → M1.2 = M.2 → WX mi_L_copyFrom 1 Q 68 [some (.ref 6), some (.ref 3), some (.int (nI u))] [] M1 := by
    have g4 : (4 : Int32) ≤ nI 4 := by decide
    refine downN 4 (fun M1 e1 e2 e3 e4 e5 => ?_) (fun u hu ih M1 e1 e2 e3 e4 e5 => ?_)
    · exact sg_L_copyFrom_6_3_68 M1 _ (fun _ => hQ M1 e1 e2 e3 e4 e5) (fun c => absurd g4 c) (fun c => absurd g4 c)
    · refine sg_L_copyFrom_6_3_68 M1 _ (fun c => absurd c (Int32.not_le.mpr (nI_lt (b := 4) hu (by decide)))) (fun _ => vp_in_nI hu (by decide)) (fun _ => ?_)
      rw [nI_1, nI_clamp (by omega), e4 5 (by decide) (by decide) (by decide)]
      refine ih _ (fun k hk => by rw [wr_ne _ (by decide)]; exact e1 k hk) (fun k hk => by rw [wr_ne _ (by decide)]; exact e2 k hk) (fun k hk => ?_) (fun q a b c => by rw [wr_ne _ c]; exact e4 q a b c) e5
      rw [upd_row]
      by_cases q : k = u
      · rw [if_pos q, q]
      · rw [if_neg q]; exact e3 k (by omega)
  have loop1 : ∀ u, u ≤ 16 → ∀ M1 : Mem, (∀ k, k < 5 → M1.1 6 k = M.1 3 k) → (∀ k, k < u → M1.1 7 k = M.1 4 k) → (∀ q, q ≠ 6 → q ≠ 7 → q ≠ 8 → M1.1 q = M.1 q) → M1.2 = M.2 → WX mi_L_copyFrom 1 Q 42 [some (.ref 6), some (.ref 3), some (.int (nI u))] [] M1 := by
    refine downN 16 (fun M1 e1 e2 e4 e5 => ?_) (fun u hu ih M1 e1 e2 e4 e5 => ?_)
    · refine sg_L_copyFrom_6_3_42 M1 _ (fun _ => ?_) (fun c => absurd ge16 c) (fun c => absurd ge16 c)
      exact loop2 0 (by decide) M1 e1 e2 (fun k hk => absurd hk (Nat.not_lt_zero k)) e4 e5
    · refine sg_L_copyFrom_6_3_42 M1 _ (fun c => absurd c (lt16 hu)) (fun _ => vp_in_nI hu (by decide)) (fun _ => ?_)
      rw [nI_1, nI_clamp (by omega), e4 4 (by decide) (by decide) (by decide)]
      refine ih _ (fun k hk => by rw [wr_ne _ (by decide)]; exact e1 k hk) (fun k hk => ?_) (fun q a b c => by rw [wr_ne _ b]; exact e4 q a b c) e5
      rw [upd_row]
      by_cases q : k = u
      · rw [if_pos q, q]
      · rw [if_neg q]; exact e2 k (by omega)
  refine loop1 0 (by decide) _ (fun k hk => ?_) (fun k hk => absurd hk (Nat.not_lt_zero k)) (fun q a b c => by rw [wr_ne _ a, wr_ne _ a, wr_ne _ a, wr_ne _ a, wr_ne _ a]) rfl
  have : k = 0 ∨ k = 1 ∨ k = 2 ∨ k = 3 ∨ k = 4 := by omega
  rcases this with rfl | rfl | rfl | rfl | rfl <;> simp [wr]
theorem wx_startOn {M : Mem} {Q : Option Value → Mem → Prop} (hQ : ∀ M', (∀ k, k < 16 → M'.1 10 k = M.1 7 k) → (∀ k, k < 16 → M'.1 11 k = -9) → (∀ z, z < 4 → M'.1 12 z = M.1 8 z) → (M'.1 9 3 = 0 ∧ M'.1 9 4 = 0 ∧ M'.1 9 8 = 0) → (∀ q, q ≠ 9 → q ≠ 10 → q ≠ 11 → q ≠ 12 → M'.1 q = M.1 q) → M'.2 = M.2 → Q none M') : WX mi_G_startOn 1 Q 0 [some (.ref 9), some (.ref 6), none] [] M := by
  refine sg_G_startOn_9_6_0 M ?_
  have loop2 : ∀ u, u ≤ 4 → ∀ M1 : Mem, (∀ k, k < 16 → M1.1 10 k = M.1 7 k) → (∀ k, k < 16 → M1.1 11 k = -9) → (∀ z, z < u → M1.1 12 z = M.1 8 z) → (∀ q, q ≠ 9 → q ≠ 10 → q ≠ 11 → q ≠ 12 → M1.1 q = M.1 q) → M1.2 = M.2 → WX mi_G_startOn 1 Q 36 [some (.ref 9), some (.ref 6), some (.int (nI u))] [] M1 := by
    have g4 : (4 : Int32) ≤ nI 4 := by decide
    refine downN 4 (fun M1 e1 e2 e3 e4 e5 => ?_) (fun u hu ih M1 e1 e2 e3 e4 e5 => ?_)
    · refine sg_G_startOn_9_6_36 M1 _ (fun _ => ?_) (fun c => absurd g4 c) (fun c => absurd g4 c)
      refine hQ _ (fun k hk => ?_) (fun k hk => ?_) (fun k hk => ?_) ⟨by simp [wr], by simp [wr], by simp [wr]⟩ (fun q a b c d => by rw [wr_ne _ a, wr_ne _ a, wr_ne _ a]; exact e4 q a b c d) e5
      · rw [wr_ne _ (by decide), wr_ne _ (by decide), wr_ne _ (by decide)]; exact e1 k hk
      · rw [wr_ne _ (by decide), wr_ne _ (by decide), wr_ne _ (by decide)]; exact e2 k hk
      · rw [wr_ne _ (by decide), wr_ne _ (by decide), wr_ne _ (by decide)]; exact e3 k hk
    · refine sg_G_startOn_9_6_36 M1 _ (fun c => absurd c (Int32.not_le.mpr (nI_lt (b := 4) hu (by decide)))) (fun _ => vp_in_nI hu (by decide)) (fun _ => ?_)
      rw [nI_1, nI_clamp (by omega), e4 8 (by decide) (by decide) (by decide) (by decide)]
      refine ih _ (fun k hk => by rw [wr_ne _ (by decide)]; exact e1 k hk) (fun k hk => by rw [wr_ne _ (by decide)]; exact e2 k hk) (fun k hk => ?_) (fun q a b c d => by rw [wr_ne _ d]; exact e4 q a b c d) e5
      rw [upd_row]
      by_cases q : k = u
      · rw [if_pos q, q]
      · rw [if_neg q]; exact e3 k (by omega)
  have loop1 : ∀ u, u ≤ 16 → ∀ M1 : Mem, (∀ k, k < u → M1.1 10 k = M.1 7 k) → (∀ k, k < u → M1.1 11 k = -9) → (∀ q, q ≠ 9 → q ≠ 10 → q ≠ 11 → q ≠ 12 → M1.1 q = M.1 q) → M1.2 = M.2 → WX mi_G_startOn 1 Q 2 [some (.ref 9), some (.ref 6), some (.int (nI u))] [] M1 := by
    refine downN 16 (fun M1 e1 e2 e4 e5 => ?_) (fun u hu ih M1 e1 e2 e4 e5 => ?_)
    · refine sg_G_startOn_9_6_2 M1 _ (fun _ => ?_) (fun c => absurd ge16 c) (fun c => absurd ge16 c)
      exact loop2 0 (by decide) M1 e1 e2 (fun k hk => absurd hk (Nat.not_lt_zero k)) e4 e5
    · refine sg_G_startOn_9_6_2 M1 _ (fun c => absurd c (lt16 hu)) (fun _ => vp_in_nI hu (by decide)) (fun _ => ?_)
      rw [nI_1, nI_clamp (by omega), e4 7 (by decide) (by decide) (by decide) (by decide)]
      refine ih _ (fun k hk => ?_) (fun k hk => ?_) (fun q a b c d => by rw [wr_ne _ c, wr_ne _ b]; exact e4 q a b c d) e5
      · rw [wr_ne _ (by decide), upd_row]
        by_cases q : k = u
        · rw [if_pos q, q]
        · rw [if_neg q]; exact e1 k (by omega)
      · rw [upd_row]
        by_cases q : k = u
        · rw [if_pos q]
        · rw [if_neg q, wr_ne _ (by decide)]; exact e2 k (by omega)
  exact loop1 0 (by decide) M (fun k hk => absurd hk (Nat.not_lt_zero k)) (fun k hk => absurd hk (Nat.not_lt_zero k)) (fun _ _ _ _ _ => rfl) rfl
theorem RC.fd {s : Sg} {M M' : Mem} (h : RC s M) (hf : FD M M') : RC s M' := by
  obtain ⟨h1, h2, h3, h4, h5, h6⟩ := h
  have e : ∀ q, q ≠ 1 → q ≠ 3 → q ≠ 4 → q ≠ 5 → M'.1 q = M.1 q := hf.1
  refine ⟨h1.fd hf, ?_, ?_, ?_, ?_, by rw [hf.2.2]; exact h6⟩
  · unfold RCp at h2 ⊢
    rw [e 6 (by decide) (by decide) (by decide) (by decide)]; exact h2
  · unfold RCg at h3 ⊢
    rw [e 9 (by decide) (by decide) (by decide) (by decide), e (9 + 1) (by decide) (by decide) (by decide) (by decide), e (9 + 2) (by decide) (by decide) (by decide) (by decide), e (9 + 3) (by decide) (by decide) (by decide) (by decide), e (9 + 4) (by decide) (by decide) (by decide) (by decide), e (9 + 5) (by decide) (by decide) (by decide) (by decide), e (9 + 6) (by decide) (by decide) (by decide) (by decide)]
    exact h3
  · unfold RCi at h4 ⊢
    refine ⟨by rw [e 0 (by decide) (by decide) (by decide) (by decide)]; exact h4.1, fun gh hg => ?_, fun gh hg => ?_⟩
    · have := h4.2.1 gh hg
      unfold RCg at this ⊢
      rw [e 16 (by decide) (by decide) (by decide) (by decide), e (16 + 1) (by decide) (by decide) (by decide) (by decide), e (16 + 2) (by decide) (by decide) (by decide) (by decide), e (16 + 3) (by decide) (by decide) (by decide) (by decide), e (16 + 4) (by decide) (by decide) (by decide) (by decide), e (16 + 5) (by decide) (by decide) (by decide) (by decide), e (16 + 6) (by decide) (by decide) (by decide) (by decide)]
      exact this
    · have := h4.2.2 gh hg
      unfold RCg at this ⊢
      rw [e 23 (by decide) (by decide) (by decide) (by decide), e (23 + 1) (by decide) (by decide) (by decide) (by decide), e (23 + 2) (by decide) (by decide) (by decide) (by decide), e (23 + 3) (by decide) (by decide) (by decide) (by decide), e (23 + 4) (by decide) (by decide) (by decide) (by decide), e (23 + 5) (by decide) (by decide) (by decide) (by decide), e (23 + 6) (by decide) (by decide) (by decide) (by decide)]
      exact this
  · unfold RCs at h5 ⊢
    rw [e 0 (by decide) (by decide) (by decide) (by decide)]; exact h5
/-- the state behind a draft that was taken -/
def sgD (d : Dr) (tr : Int64) : Sg := ([], d.1, ((d.2.1, fun _ => none, d.2.2.1, fun _ => false, 0), []), (none, none), [], tr)
theorem sgD_wf {B : Nat} {d : Dr} {tr : Int64} (hB : 20 ≤ B) (h : WfD d) : WfS B (sgD d tr) := by
  refine ⟨⟨Nat.zero_le _, fun c hc => absurd hc List.not_mem_nil⟩, h.wfp, ⟨⟨h.2.1, fun k c hk => (by cases hk), fun k hk => (by cases hk), fun k c hk => (by cases hk), Nat.zero_le _, fun z hz => Nat.le_trans (h.2.2 z hz) hB⟩, trivial, Nat.zero_le _⟩, fun gh hg => (by cases hg), fun gh hg => (by cases hg), Nat.zero_le _, fun k hk => absurd hk List.not_mem_nil⟩
theorem yard_C {t : List Nat} {s : Sg} {M : Mem} {Q : Option Value → Mem → Prop} (ht : Txt t) (hs : s.1 = t) (hc : RC s M) (h1 : ∀ e M', parF t 151 0 0 drN = .inl e → RC s M' → FrC M M' → Q (some (.int (-10 - nI e))) M') (h2 : ∀ i' d' M', parF t 151 0 0 drN = .inr (i', d') → RC (sgD d' s.2.2.2.2.2) M' → FrC M M' → Q (some (.int (nI i'))) M') : WX mi_C_yard 7 Q 0 [some (.ref 0), none] [] M := by
  refine sg_C_yard_0_0 M ?_
  refine wx_readAll (t := t) ht (by rw [← hs]; exact hc.1) ⟨fun e M1 he hle f => ?_, fun i' d' M1 he rd f => ?_⟩
  · have n0 : ¬ 0 ≤ (-10 : Int32) - nI e := by
      have : ∀ e, e < 151 → ¬ 0 ≤ (-10 : Int32) - nI e := by decide +kernel
      exact this e (by omega)
    exact sg_C_yard_0_7 M1 _ (fun c => absurd c n0) (fun _ => h1 e M1 he (hc.fd f) ⟨fun q hq => f.1 q (by omega) (by omega) (by omega) (by omega), by rw [f.2.2]⟩)
  · have hi : i' ≤ 75 + t.length := (par_ok 151 0 0 drN i' d' he wfd_0 (fun _ => ⟨rfl, fun _ => ⟨rfl, rfl⟩⟩) (Nat.zero_le _) (Nat.le_refl _)).2
    have hl := ht.1
    have p0 : 0 ≤ nI i' := (nI_le_iff (a := 0) (by decide) (by omega)).mpr (Nat.zero_le _)
    refine sg_C_yard_0_7 M1 _ (fun _ => ?_) (fun c => absurd p0 c)
    refine wx_copyTold (fun M2 a1 a2 a3 a4 a5 => ?_)
    refine sg_C_yard_0_28 M2 _ ?_
    refine wx_startOn (fun M3 b1 b2 b3 b4 b5 b6 => ?_)
    refine sg_C_yard_0_39 M3 _ ?_
    have fq : ∀ q, 37 ≤ q → (wr (wr (wr (wr M3 1 1 0) 0 8 0) 0 9 0) 0 10 0).1 q = M.1 q := fun q hq => by
      rw [wr_ne _ (by omega), wr_ne _ (by omega), wr_ne _ (by omega), wr_ne _ (by omega), b5 q (by omega) (by omega) (by omega) (by omega), a4 q (by omega) (by omega) (by omega)]
      exact f.1 q (by omega) (by omega) (by omega) (by omega)
    have f2 : (wr (wr (wr (wr M3 1 1 0) 0 8 0) 0 9 0) 0 10 0).2 = M.2 := by
      show M3.2 = M.2
      rw [b6, a5, f.2.2]
    have g : ∀ q, q ≠ 0 → q ≠ 1 → (wr (wr (wr (wr M3 1 1 0) 0 8 0) 0 9 0) 0 10 0).1 q = M3.1 q := fun q x y => by rw [wr_ne _ x, wr_ne _ x, wr_ne _ x, wr_ne _ y]
    refine h2 i' d' _ he ⟨⟨?_, fun j c hj => ?_⟩, ?_, ?_, ⟨?_, fun gh hg => (by cases hg), fun gh hg => (by cases hg)⟩, ⟨?_, ?_⟩, ?_⟩ ⟨fq, by rw [f2]⟩
    · rw [wr_ne _ (by decide), wr_ne _ (by decide), wr_ne _ (by decide), upd_row, if_pos rfl]; rfl
    · have hj : ([] : List Nat)[j]? = some c := hj
      rw [List.getElem?_nil] at hj; cases hj
    · obtain ⟨⟨c1, c2, c3, c4, c5⟩, -⟩ := rd
      unfold RCp
      rw [g 6 (by decide) (by decide), b5 6 (by decide) (by decide) (by decide) (by decide), a1 0 (by decide), a1 1 (by decide), a1 2 (by decide), a1 3 (by decide), a1 4 (by decide)]
      exact ⟨c1, c2, c3, c4, c5⟩
    · obtain ⟨-, c2, c3, -⟩ := rd
      refine ⟨fun k hk _ => ?_, fun u hu => ?_, fun z hz => ?_, ?_, ?_, ?_, fun j e hj => ?_⟩
      · rw [g _ (by decide) (by decide), b1 k hk, a2 k hk]; exact c2 k hk
      · rw [g _ (by decide) (by decide), b2 u hu]; rfl
      · rw [g _ (by decide) (by decide), b3 z hz, a3 z hz]; exact c3 z hz
      · rw [g _ (by decide) (by decide), b4.1]
        exact sI_none.symm
      · rw [g _ (by decide) (by decide), b4.2.1]; rfl
      · rw [g _ (by decide) (by decide), b4.2.2]; rfl
      · have hj : ([] : Hs)[j]? = some e := hj
        rw [List.getElem?_nil] at hj; cases hj
    · rw [upd_row, if_neg (by decide), upd_row, if_neg (by decide), upd_row, if_pos rfl]
      refine Eq.symm (sI_zero.mpr (fun k _ => ?_))
      show ((decide (k = 0) && false) || (decide (k = 1) && false)) = false
      simp
    · rw [upd_row, if_neg (by decide), upd_row, if_pos rfl]
      refine Eq.symm (sI_zero.mpr (fun k _ => ?_))
      exact decide_eq_false List.not_mem_nil
    · rw [upd_row, if_pos rfl]; rfl
    · rw [f2]; exact hc.2.2.2.2.2
