theorem k_lays {B : Nat} {s : Sg} (hi : B ≤ 2580) (x v w : Int32) (hw : WfS B s) : ∃ (r : Int32) (s' : Sg), WfS (B + 1) s' ∧ ((s' = s ∧ (r = -2 ∨ (r = -1 ∧ ¬ ((0 ≤ x ∧ x ≤ 3) ∧ okc s.2.1 v w = true)))) ∨ (Act s s' ∧ ∃ n, n < 2 ^ 31 ∧ r = nI n)) ∧ K0 mi_C_lays 5 [.int x, .int v, .int w] s (.int r) s' := by
  obtain ⟨t, p, gh, im, sn, tr⟩ := s
  have hup := hw.up (show B ≤ B + 1 by omega)
  have hp : WfP p := hw.2.1
  have hg : WfG (B) p gh.1 := hw.2.2.1.1
  by_cases hb : (0 ≤ x ∧ x ≤ 3) ∧ okc p v w = true
  · obtain ⟨hx, ho⟩ := hb
    have es := (isSize_iff x).mpr hx
    obtain ⟨k, hk, rfl, rfl, ht⟩ := okc_cell hp ho
    obtain ⟨z, hz, rfl⟩ := nI_of2 (n := 3) (by decide) (Int32.not_lt.mpr hx.1) hx.2
    have hz4 : z < 4 := by omega
    have en : z_C_numberOf (nI (k % 4)) (nI (k / 4)) = nI k := numOf k hk
    have en' : (4 * nI (k / 4)) + nI (k % 4) = nI k := numOf' hk
    have ez : (nI z).toNatClampNeg = z := nI_clamp (by omega)
    have hst : gSt gh.1 z ≤ B := hg.2.2.2.2.2 z hz4
    have e32 : (32 : Int32) + nI z = nI (32 + z) := by rw [show (32 : Int32) = nI 32 from rfl, nI_add]
    have bnd : vp_in (32 + nI z) 1257 := by rw [e32]; exact vp_in_nI (by omega) (by decide)
    by_cases hl : lyO p gh.1 (16 * z + k) ∧ 0 < gSt gh.1 z
    · obtain ⟨hl, hs⟩ := hl
      obtain ⟨w1, w2, w3⟩ := lay_ok (t := true) hz4 hk hg hl hs
      have hwh : WfH (B + 1) p (putc (16 * z + k) true gh.1, more (0, k, 0) gh.1 gh.2) := wfh_more (by omega) hw.2.2.1 (w1.up (by omega)) w2 w3
      refine ⟨nI (gSt gh.1 z - 1), (t, p, (putc (16 * z + k) true gh.1, more (0, k, 0) gh.1 gh.2), im, sn, tr), WfS.act (by omega) hw hwh, Or.inr ⟨⟨_, putc (16 * z + k) true gh.1, Nat.le_succ _, rfl⟩, gSt gh.1 z - 1, by omega, rfl⟩, fun M Q hc hQ => ?_⟩
      · have hcg : RCg 9 p gh M := hc.2.2.1
        have e : ¬ z_L_has_6 M (nI (k % 4)) (nI (k / 4)) = 0 := by rw [has_C hp hc.2.1, ho]; decide
        have ec12 : M.1 12 (nI z).toNatClampNeg = nI (gSt gh.1 z) := by rw [ez]; exact hcg.2.2.1 z hz4
        refine sg_C_lays_0_0 M _ _ _ (fun c => absurd c es) (fun _ _ => vp_in_nI hz4 (by decide)) (fun _ _ c => ?_) (fun _ _ _ => ?_) (fun _ c => absurd c e)
        · rw [ec12] at c
          have := (nI_le0 (by omega)).mp c
          omega
        · rw [en]
          refine wx_freeCells hp hg hc.2.1 hcg ?_
          refine sg_C_lays_0_47 M _ _ _ _ _ _ _ (fun _ _ => vp_in_nI hz4 (by decide)) (fun _ _ _ _ _ => vp_in_nI hz4 (by decide)) (fun _ => ?_) (fun c => absurd c ((fits_C hz4 hk).mpr hl))
          refine sg_G_lay_9_0 M _ _ ?_
          refine wx_put (t := true) hz4 hk hg hl hs (RCg_iff.mp hcg).1 (fun M1 r1 r2 r3 r4 => ?_)
          refine sg_G_lay_9_7 M1 _ _ ?_
          refine wx_remember (e := (0, k, 0)) (g := gh.1) (hs := gh.2) (M := M1) ?_ hw.2.2.1.2.2 (fun M2 q1 q2 q3 q4 => ?_)
          · have := hcg.h
            unfold RCh at this ⊢
            rw [r3 8 (by decide), r2 13 (by decide) (by decide) (by decide), r2 14 (by decide) (by decide) (by decide), r2 15 (by decide) (by decide) (by decide)]
            exact this
          refine sg_G_lay_9_14 M2 _ _ ?_
          refine sg_C_lays_0_66 M2 _ _ _ _ (vp_in_nI hz4 (by decide)) ?_
          have rx : RCx 9 p (putc (16 * z + k) true gh.1) M2 := by
            unfold RCx at r1 ⊢
            rw [q2 10 (by decide) (by decide) (by decide) (by decide), q2 11 (by decide) (by decide) (by decide) (by decide), q2 12 (by decide) (by decide) (by decide) (by decide), q3 3 (by decide), q3 4 (by decide)]
            exact r1
          have ea : M2.1 12 (nI z).toNatClampNeg = nI (gSt gh.1 z - 1) := by
            rw [ez]
            have := rx.2.2.1 z hz4
            rw [show (9 + 3) = 12 from rfl] at this
            rw [this]
            show nI (if z = (16 * z + k) / 16 then gSt gh.1 z - 1 else _) = _
            rw [if_pos (by omega)]
          rw [ea]
          have ra := RC.act (gh' := (putc (16 * z + k) true gh.1, more (0, k, 0) gh.1 gh.2)) (M' := M2) hc (fun q hq => by rw [q2 q (by omega) (by omega) (by omega) (by omega), r2 q (by omega) (by omega) (by omega)]) (by rw [q4, r4]) (RCg_iff.mpr ⟨rx, q1⟩)
          exact hQ _ ra.1 ra.2
    · refine ⟨-2, (t, p, gh, im, sn, tr), hup, Or.inl ⟨rfl, Or.inl rfl⟩, fun M Q hc hQ => ?_⟩
      · have hcg : RCg 9 p gh M := hc.2.2.1
        have e : ¬ z_L_has_6 M (nI (k % 4)) (nI (k / 4)) = 0 := by rw [has_C hp hc.2.1, ho]; decide
        have ec12 : M.1 12 (nI z).toNatClampNeg = nI (gSt gh.1 z) := by rw [ez]; exact hcg.2.2.1 z hz4
        have hd := hQ M hc (FrC.refl M)
        refine sg_C_lays_0_0 M _ _ _ (fun c => absurd c es) (fun _ _ => vp_in_nI hz4 (by decide)) (fun _ _ _ => hd) (fun _ _ c => ?_) (fun _ c => absurd c e)
        rw [ec12] at c
        have hs : 0 < gSt gh.1 z := Nat.pos_of_ne_zero (fun q => c ((nI_le0 (by omega)).mpr q))
        rw [en]
        refine wx_freeCells hp hg hc.2.1 hcg ?_
        exact sg_C_lays_0_47 M _ _ _ _ _ _ _ (fun _ _ => vp_in_nI hz4 (by decide)) (fun _ _ _ _ _ => vp_in_nI hz4 (by decide)) (fun c => absurd ⟨(fits_C hz4 hk).mp c, hs⟩ hl) (fun _ => hd)
  · refine ⟨-1, (t, p, gh, im, sn, tr), hup, Or.inl ⟨rfl, Or.inr ⟨rfl, hb⟩⟩, fun M Q hc hQ => ?_⟩
    · have hcg : RCg 9 p gh M := hc.2.2.1
      have hd := hQ M hc (FrC.refl M)
      have bad : ¬ z_C_isSize x = 0 → ¬ z_L_has_6 M v w = 0 → False := fun c1 c2 => hb ⟨(isSize_iff x).mp c1, by
        rw [has_C hp hc.2.1] at c2
        cases q : okc p v w with
        | true => rfl
        | false => rw [q] at c2; exact absurd rfl c2⟩
      exact sg_C_lays_0_0 M _ _ _ (fun _ => hd) (fun c1 c2 => absurd (bad c1 c2) id) (fun c1 c2 _ => absurd (bad c1 c2) id) (fun c1 c2 _ => absurd (bad c1 c2) id) (fun _ _ => hd)
