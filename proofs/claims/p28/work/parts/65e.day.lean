theorem k_day {B : Nat} {s : Sg} (hw : WfS B s) : ∃ (r : Int32) (s' : Sg), WfS (B + 1) s' ∧ ((gDy s.2.2.1.1 = 99 ∧ s' = s) ∨ (Act s s' ∧ r = nI (gDy s.2.2.1.1 + 1))) ∧ K0 mi_C_day 3 [] s (.int r) s' := by
  obtain ⟨t, p, gh, im, sn, tr⟩ := s
  have hg : WfG (B) p gh.1 := hw.2.2.1.1
  have hdy : gDy gh.1 ≤ 99 := hg.2.2.2.2.1
  by_cases hd : gDy gh.1 = 99
  · refine ⟨-2, (t, p, gh, im, sn, tr), hw.up (by omega), Or.inl ⟨hd, rfl⟩, fun M Q hc hQ => ?_⟩
    · have hcg : RCg 9 p gh M := hc.2.2.1
      have ed : M.1 9 4 = nI (gDy gh.1) := hcg.2.2.2.2.1
      have : ¬ M.1 9 4 < 99 := by rw [ed, hd]; decide
      exact sg_C_day_0_0 M (fun c => absurd c this) (fun _ => hQ M hc (FrC.refl M))
  · obtain ⟨w1, w2, w3⟩ := day_ok hg (by omega)
    have hwh : WfH (B + 1) p (dayG gh.1, more (3, 0, dayB gh.1) gh.1 gh.2) := wfh_more (by omega) hw.2.2.1 (w1.up (by omega)) w2 w3
    refine ⟨nI (gDy gh.1 + 1), (t, p, (dayG gh.1, more (3, 0, dayB gh.1) gh.1 gh.2), im, sn, tr), WfS.act (by omega) hw hwh, Or.inr ⟨⟨_, _, Nat.le_refl _, rfl⟩, rfl⟩, fun M Q hc hQ => ?_⟩
    · have hcg : RCg 9 p gh M := hc.2.2.1
      have ed : M.1 9 4 = nI (gDy gh.1) := hcg.2.2.2.2.1
      have : M.1 9 4 < 99 := by rw [ed]; exact nI_lt (b := 99) (by omega) (by decide)
      refine sg_C_day_0_0 M (fun _ => ?_) (fun c => absurd this c)
      refine sg_G_passDay_9_0 M ?_
      have et : M.1 9 3 = nI (dayB gh.1) := hcg.2.2.2.1
      rw [et]
      refine wx_remember (e := (3, 0, dayB gh.1)) (g := gh.1) hcg.h hw.2.2.1.2.2 (fun M1 r1 r2 r3 r4 => ?_)
      refine sg_G_passDay_9_10 M1 ?_
      refine sg_C_day_0_22 _ ?_
      have e94 : M1.1 9 4 = nI (gDy gh.1) := by rw [r3 4 (by decide)]; exact ed
      have eans : (wr (wr M1 9 3 0) 9 4 (M1.1 9 4 + 1)).1 9 4 = nI (gDy gh.1 + 1) := by rw [e94, nI_1]; simp [wr]
      rw [eans]
      have ra := RC.act (gh' := (dayG gh.1, more (3, 0, dayB gh.1) gh.1 gh.2)) (M' := wr (wr M1 9 3 0) 9 4 (M1.1 9 4 + 1)) hc (fun q hq => by rw [wr_ne _ (by omega), wr_ne _ (by omega)]; exact r2 q (by omega) (by omega) (by omega) (by omega)) r4 ?_
      · exact hQ _ ra.1 ra.2
      · obtain ⟨k1, k2, k3, k4, k5, k6⟩ := hcg
        refine ⟨fun k hk ht => ?_, fun u hu => ?_, fun z hz => ?_, ?_, ?_, ?_, ?_⟩
        · rw [wr_ne _ (by decide), wr_ne _ (by decide), r2 10 (by decide) (by decide) (by decide) (by decide)]; exact k1 k hk ht
        · rw [wr_ne _ (by decide), wr_ne _ (by decide), r2 11 (by decide) (by decide) (by decide) (by decide)]; exact k2 u hu
        · rw [wr_ne _ (by decide), wr_ne _ (by decide), r2 12 (by decide) (by decide) (by decide) (by decide)]; exact k3 z hz
        · have : sI (fun u => (szAt (dayG gh.1) u).isSome && gTd (dayG gh.1) u) = 0 := sI_zero.mpr (fun k _ => by show (_ && false) = false; simp)
          show _ = sI (fun u => (szAt (dayG gh.1) u).isSome && gTd (dayG gh.1) u)
          rw [this]
          simp [wr]
        · rw [eans]; rfl
        · have := r1.1
          simp only [wr]
          simpa using this
        · have := r1.2
          simp only [wr]
          simpa using this
