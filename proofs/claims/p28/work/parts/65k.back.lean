theorem k_back {B : Nat} {s : Sg} (x : Int32) (hw : WfS B s) : ∃ (r : Int32) (s' : Sg), WfS (B + 1) s' ∧ (Tm s s') ∧ K0 mi_C_back 2 [.int x] s (.int r) s' := by
  obtain ⟨t, p, gh, im, sn, tr⟩ := s
  have hup := hw.up (show B ≤ B + 1 by omega)
  by_cases hx : 0 ≤ x ∧ x ≤ 1
  · have t1 := ((two_iff _).mpr hx)
    obtain ⟨k, hk, rfl⟩ := nI_of2 (n := 1) (by decide) (Int32.not_lt.mpr hx.1) hx.2
    have ek : k = 0 ∨ k = 1 := by omega
    have hb : vp_in (nI k) 2 := vp_in_nI (by omega) (by decide)
    rcases ek with rfl | rfl
    · cases hs : im.1 with
      | none =>
        refine ⟨-2, (t, p, gh, im, sn, tr), hup, Tm.of rfl rfl rfl rfl, fun M Q hc hQ => ?_⟩
        · have hhold : z_C_holds (M.1 0 8) (nI 0) = bI im.1.isSome := by
            rw [hc.2.2.2.1.1, holds_sI (by decide)]
            cases im.1 <;> cases im.2 <;> rfl
          refine sg_C_back_0_0 M _ (fun c => absurd c t1.1) (fun _ _ c => ?_) (fun _ _ _ => hQ M hc (FrC.refl M)) (fun _ c => absurd t1.2 c)
          rw [hhold, hs] at c
          exact absurd rfl c
      | some gh' =>
        have hwf : WfH (B) p gh' := hw.2.2.2.1 gh' hs
        refine ⟨nI (gDy gh'.1), (t, p, gh', im, sn, tr), WfS.act (by omega) hw (hwf.up (by omega)), Tm.mk' rfl rfl (fun n h => Nat.le_succ_of_le (h.2.1 gh' hs)) (fun n h g e => Nat.le_succ_of_le (h.2.1 g e)) (fun n h g e => Nat.le_succ_of_le (h.2.2 g e)), fun M Q hc hQ => ?_⟩
        · have hhold : z_C_holds (M.1 0 8) (nI 0) = bI im.1.isSome := by
            rw [hc.2.2.2.1.1, holds_sI (by decide)]
            cases im.1 <;> cases im.2 <;> rfl
          refine sg_C_back_0_0 M _ (fun c => absurd c t1.1) (fun _ _ _ => ?_) (fun _ _ c => ?_) (fun _ c => absurd t1.2 c)
          · refine sg_C_imageOf_0_0 M _ (fun c => absurd rfl c) (fun _ => ?_)
            refine sg_C_back_0_34r16 M _ ?_
            refine wx_copy_9_16 (hc.2.2.2.1.2.1 gh' hs) hwf.2.2 (fun M1 r1 r2 r3 => ?_)
            refine sg_C_back_0_37 M1 _ ?_
            rw [show M1.1 9 4 = nI (gDy gh'.1) from r1.2.2.2.2.1]
            have ra := RC.act (gh' := gh') (M' := M1) hc (fun q hq => r2 q (by omega)) r3 r1
            exact hQ _ ra.1 ra.2
          · rw [hhold, hs] at c
            exact absurd c (show ¬ (1 : Int32) = 0 by decide)
    · cases hs : im.2 with
      | none =>
        refine ⟨-2, (t, p, gh, im, sn, tr), hup, Tm.of rfl rfl rfl rfl, fun M Q hc hQ => ?_⟩
        · have hhold : z_C_holds (M.1 0 8) (nI 1) = bI im.2.isSome := by
            rw [hc.2.2.2.1.1, holds_sI (by decide)]
            cases im.1 <;> cases im.2 <;> rfl
          refine sg_C_back_0_0 M _ (fun c => absurd c t1.1) (fun _ _ c => ?_) (fun _ _ _ => hQ M hc (FrC.refl M)) (fun _ c => absurd t1.2 c)
          rw [hhold, hs] at c
          exact absurd rfl c
      | some gh' =>
        have hwf : WfH (B) p gh' := hw.2.2.2.2.1 gh' hs
        refine ⟨nI (gDy gh'.1), (t, p, gh', im, sn, tr), WfS.act (by omega) hw (hwf.up (by omega)), Tm.mk' rfl rfl (fun n h => Nat.le_succ_of_le (h.2.2 gh' hs)) (fun n h g e => Nat.le_succ_of_le (h.2.1 g e)) (fun n h g e => Nat.le_succ_of_le (h.2.2 g e)), fun M Q hc hQ => ?_⟩
        · have hhold : z_C_holds (M.1 0 8) (nI 1) = bI im.2.isSome := by
            rw [hc.2.2.2.1.1, holds_sI (by decide)]
            cases im.1 <;> cases im.2 <;> rfl
          refine sg_C_back_0_0 M _ (fun c => absurd c t1.1) (fun _ _ _ => ?_) (fun _ _ c => ?_) (fun _ c => absurd t1.2 c)
          · refine sg_C_imageOf_0_0 M _ (fun _ => ?_) (fun c => absurd c (by decide))
            refine sg_C_back_0_34r23 M _ ?_
            refine wx_copy_9_23 (hc.2.2.2.1.2.2 gh' hs) hwf.2.2 (fun M1 r1 r2 r3 => ?_)
            refine sg_C_back_0_37 M1 _ ?_
            rw [show M1.1 9 4 = nI (gDy gh'.1) from r1.2.2.2.2.1]
            have ra := RC.act (gh' := gh') (M' := M1) hc (fun q hq => r2 q (by omega)) r3 r1
            exact hQ _ ra.1 ra.2
          · rw [hhold, hs] at c
            exact absurd c (show ¬ (1 : Int32) = 0 by decide)
  · refine ⟨-1, (t, p, gh, im, sn, tr), hup, Tm.of rfl rfl rfl rfl, fun M Q hc hQ => ?_⟩
    · have hd := hQ M hc (FrC.refl M)
      exact sg_C_back_0_0 M _ (fun _ => hd) (fun c1 c2 _ => absurd ((two_iff x).mp ⟨c1, c2⟩) hx) (fun c1 c2 _ => absurd ((two_iff x).mp ⟨c1, c2⟩) hx) (fun _ _ => hd)
