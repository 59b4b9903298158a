theorem k_keep {B : Nat} {s : Sg} (x : Int32) (hw : WfS B s) : ∃ (r : Int32) (s' : Sg), WfS (B + 1) s' ∧ (Tm s s') ∧ K0 mi_C_keep 2 [.int x] s (.int r) s' := by
  obtain ⟨t, p, gh, im, sn, tr⟩ := s
  have hup := hw.up (show B ≤ B + 1 by omega)
  have hl : gh.2.length ≤ 10 := hw.2.2.1.2.2
  by_cases hx : 0 ≤ x ∧ x ≤ 1
  · obtain ⟨k, hk, rfl⟩ := nI_of2 (n := 1) (by decide) (Int32.not_lt.mpr hx.1) hx.2
    have t1 := ((two_iff _).mpr hx)
    have ek : k = 0 ∨ k = 1 := by omega
    rcases ek with rfl | rfl
    · refine ⟨nI (gDy gh.1), (t, p, gh, (some gh, im.2), sn, tr), ⟨hup.1, hup.2.1, hup.2.2.1, fun gh' e => (by cases e; exact hup.2.2.1), hup.2.2.2.2.1, hup.2.2.2.2.2⟩, Tm.mk' rfl rfl (fun n h => Nat.le_succ_of_le h.1) (fun n h g e => by cases e; exact Nat.le_succ_of_le h.1) (fun n h g e => Nat.le_succ_of_le (h.2.2 g e)), fun M Q hc hQ => ?_⟩
      · have hcg : RCg 9 p gh M := hc.2.2.1
        have hdy : M.1 9 4 = nI (gDy gh.1) := hcg.2.2.2.2.1
        refine sg_C_keep_0_0 M _ (fun c => absurd c t1.1) (fun _ _ => ?_) (fun _ c => absurd t1.2 c)
        refine sg_C_imageOf_0_0 M _ (fun c => absurd rfl c) (fun _ => ?_)
        refine sg_C_keep_0_16r16 M _ ?_
        refine wx_copy_16_9 hcg hl (fun M1 r1 r2 r3 => ?_)
        refine sg_C_keep_0_23 M1 _ ?_
        have e8 : M1.1 0 8 ||| shl 1 (nI 0) = sI (fun k => (decide (k = 0) && (some gh : Option Gh).isSome) || (decide (k = 1) && im.2.isSome)) := by
          rw [r2 0 (by decide), hc.2.2.2.1.1, sI_one (by decide), sI_or]
          exact sI_ext fun k _ => by cases decide (k = 0) <;> simp
        rw [e8, show M1.1 9 4 = nI (gDy gh.1) by rw [r2 9 (by decide)]; exact hdy]
        have ra := RC.img (im' := (some gh, im.2)) (M' := wr M1 0 8 (sI (fun k => (decide (k = 0) && (some gh : Option Gh).isSome) || (decide (k = 1) && im.2.isSome)))) hc (fun q a b => by rw [wr_ne _ a]; exact r2 q (by omega)) (fun k hk => by rw [upd_row, if_neg hk, r2 0 (by decide)]) r3 ?_
        · exact hQ _ ra.1 ra.2
        · refine ⟨by rw [upd_row, if_pos rfl], fun gh' e => ?_, fun gh' e => ?_⟩
          · cases e
            unfold RCg at r1 ⊢
            simpa [wr] using r1
          · have := hc.2.2.2.1.2.2 gh' e
            unfold RCg at this ⊢
            rw [wr_ne _ (by decide), wr_ne _ (by decide), wr_ne _ (by decide), wr_ne _ (by decide), wr_ne _ (by decide), wr_ne _ (by decide), wr_ne _ (by decide), r2 23 (by decide), r2 (23 + 1) (by decide), r2 (23 + 2) (by decide), r2 (23 + 3) (by decide), r2 (23 + 4) (by decide), r2 (23 + 5) (by decide), r2 (23 + 6) (by decide)]
            exact this
    · refine ⟨nI (gDy gh.1), (t, p, gh, (im.1, some gh), sn, tr), ⟨hup.1, hup.2.1, hup.2.2.1, hup.2.2.2.1, fun gh' e => (by cases e; exact hup.2.2.1), hup.2.2.2.2.2⟩, Tm.mk' rfl rfl (fun n h => Nat.le_succ_of_le h.1) (fun n h g e => Nat.le_succ_of_le (h.2.1 g e)) (fun n h g e => by cases e; exact Nat.le_succ_of_le h.1), fun M Q hc hQ => ?_⟩
      · have hcg : RCg 9 p gh M := hc.2.2.1
        have hdy : M.1 9 4 = nI (gDy gh.1) := hcg.2.2.2.2.1
        refine sg_C_keep_0_0 M _ (fun c => absurd c t1.1) (fun _ _ => ?_) (fun _ c => absurd t1.2 c)
        refine sg_C_imageOf_0_0 M _ (fun _ => ?_) (fun c => absurd c (by decide))
        refine sg_C_keep_0_16r23 M _ ?_
        refine wx_copy_23_9 hcg hl (fun M1 r1 r2 r3 => ?_)
        refine sg_C_keep_0_23 M1 _ ?_
        have e8 : M1.1 0 8 ||| shl 1 (nI 1) = sI (fun k => (decide (k = 0) && im.1.isSome) || (decide (k = 1) && (some gh : Option Gh).isSome)) := by
          rw [r2 0 (by decide), hc.2.2.2.1.1, sI_one (by decide), sI_or]
          exact sI_ext fun k _ => by cases decide (k = 1) <;> simp
        rw [e8, show M1.1 9 4 = nI (gDy gh.1) by rw [r2 9 (by decide)]; exact hdy]
        have ra := RC.img (im' := (im.1, some gh)) (M' := wr M1 0 8 (sI (fun k => (decide (k = 0) && im.1.isSome) || (decide (k = 1) && (some gh : Option Gh).isSome)))) hc (fun q a b => by rw [wr_ne _ a]; exact r2 q (by omega)) (fun k hk => by rw [upd_row, if_neg hk, r2 0 (by decide)]) r3 ?_
        · exact hQ _ ra.1 ra.2
        · refine ⟨by rw [upd_row, if_pos rfl], fun gh' e => ?_, fun gh' e => ?_⟩
          · have := hc.2.2.2.1.2.1 gh' e
            unfold RCg at this ⊢
            rw [wr_ne _ (by decide), wr_ne _ (by decide), wr_ne _ (by decide), wr_ne _ (by decide), wr_ne _ (by decide), wr_ne _ (by decide), wr_ne _ (by decide), r2 16 (by decide), r2 (16 + 1) (by decide), r2 (16 + 2) (by decide), r2 (16 + 3) (by decide), r2 (16 + 4) (by decide), r2 (16 + 5) (by decide), r2 (16 + 6) (by decide)]
            exact this
          · cases e
            unfold RCg at r1 ⊢
            simpa [wr] using r1
  · refine ⟨-1, (t, p, gh, im, sn, tr), hup, Tm.of rfl rfl rfl rfl, fun M Q hc hQ => ?_⟩
    · have hcg : RCg 9 p gh M := hc.2.2.1
      have hdy : M.1 9 4 = nI (gDy gh.1) := hcg.2.2.2.2.1
      have hd := hQ M hc (FrC.refl M)
      exact sg_C_keep_0_0 M _ (fun _ => hd) (fun c1 c2 => absurd ((two_iff x).mp ⟨c1, c2⟩) hx) (fun _ _ => hd)
