theorem k_raises {B : Nat} {s : Sg} (x y v : Int32) (hw : WfS B s) : ∃ (r : Int32) (s' : Sg), WfS (B + 1) s' ∧ ((s' = s ∧ ∀ k' h', k' < 16 → h' ≤ 9 → x = nI (k' % 4) → y = nI (k' / 4) → v = nI h' → thr s.2.1 k' = true → pD s.2.1 k' = false → gHt s.2.2.1.1 k' = h') ∨ (∃ k', k' < 16 ∧ x = nI (k' % 4) ∧ y = nI (k' / 4) ∧ r = nI (gHt s.2.2.1.1 k') ∧ Act s s')) ∧ K0 mi_C_raises 4 [.int x, .int y, .int v] s (.int r) s' := by
  obtain ⟨t, p, gh, im, sn, tr⟩ := s
  have hup := hw.up (show B ≤ B + 1 by omega)
  have hp : WfP p := hw.2.1
  have hg : WfG (B) p gh.1 := hw.2.2.1.1
  by_cases hb : okc p x y = true ∧ 0 ≤ v ∧ v ≤ 9
  · obtain ⟨ho, hv1, hv2⟩ := hb
    obtain ⟨k, hk, rfl, rfl, ht⟩ := okc_cell hp ho
    obtain ⟨h, hh, rfl⟩ := nI_of2 (n := 9) (by decide) (Int32.not_lt.mpr hv1) hv2
    have en : z_C_numberOf (nI (k % 4)) (nI (k / 4)) = nI k := numOf k hk
    have hold : gHt gh.1 k ≤ 9 := hg.1 k hk ht
    by_cases hst : pD p k = true ∨ gHt gh.1 k = h
    · refine ⟨-2, (t, p, gh, im, sn, tr), hup, Or.inl ⟨rfl, rs_st hk (by omega) hst⟩, fun M Q hc hQ => ?_⟩
      · have hcg : RCg 9 p gh M := hc.2.2.1
        have e : ¬ z_L_has_6 M (nI (k % 4)) (nI (k / 4)) = 0 := by rw [has_C hp hc.2.1, ho]; decide
        have ed : z_C_holds (M.1 6 4) (nI k) = bI (pD p k) := by rw [hc.2.1.2.2.2.2, holds_sI hk]
        have eh : M.1 10 (nI k).toNatClampNeg = nI (gHt gh.1 k) := by rw [nI_clamp (by omega)]; exact hcg.1 k hk ht
        have hd := hQ M hc (FrC.refl M)
        refine sg_C_raises_0_0 M _ _ _ (fun c => absurd c e) (fun _ c => absurd c (Int32.not_lt.mpr hv1)) (fun _ _ _ _ => hd) (fun _ _ _ _ => by rw [en]; exact vp_in_nI hk (by decide)) (fun _ _ _ c1 c2 => ?_) (fun _ _ _ _ _ => hd) (fun _ _ c => absurd hv2 c)
        rw [en, ed, bI_0] at c1
        rw [en, eh] at c2
        rcases hst with q | q
        · rw [q] at c1; cases c1
        · exact absurd (by rw [q]) c2
    · have hnd : pD p k = false := by
        cases hq : pD p k with
        | false => rfl
        | true => exact absurd (Or.inl hq) hst
      have hne : gHt gh.1 k ≠ h := fun q => hst (Or.inr q)
      obtain ⟨w1, w2, w3⟩ := rs_ok hg hk ht hh
      have hwh : WfH (B + 1) p (rsG k h gh.1, more (2, k, gHt gh.1 k) gh.1 gh.2) := wfh_more (by omega) hw.2.2.1 (w1.up (by omega)) w2 w3
      refine ⟨nI (gHt gh.1 k), (t, p, (rsG k h gh.1, more (2, k, gHt gh.1 k) gh.1 gh.2), im, sn, tr), WfS.act (by omega) hw hwh, Or.inr ⟨k, hk, rfl, rfl, rfl, _, rsG k h gh.1, Nat.le_succ _, rfl⟩, fun M Q hc hQ => ?_⟩
      · have hcg : RCg 9 p gh M := hc.2.2.1
        have e : ¬ z_L_has_6 M (nI (k % 4)) (nI (k / 4)) = 0 := by rw [has_C hp hc.2.1, ho]; decide
        have ed : z_C_holds (M.1 6 4) (nI k) = bI (pD p k) := by rw [hc.2.1.2.2.2.2, holds_sI hk]
        have eh : M.1 10 (nI k).toNatClampNeg = nI (gHt gh.1 k) := by rw [nI_clamp (by omega)]; exact hcg.1 k hk ht
        refine sg_C_raises_0_0 M _ _ _ (fun c => absurd c e) (fun _ c => absurd c (Int32.not_lt.mpr hv1)) (fun _ _ _ c => ?_) (fun _ _ _ _ => by rw [en]; exact vp_in_nI hk (by decide)) (fun _ _ _ c1 c2 => ?_) (fun _ _ _ _ c => ?_) (fun _ _ c => absurd hv2 c)
        · rw [en, ed, hnd] at c; exact absurd rfl c
        · rw [en]
          refine sg_G_raise_9_0 M _ _ (vp_in_nI hk (by decide)) ?_
          rw [eh, nI_clamp (by omega)]
          refine wx_remember (e := (2, k, gHt gh.1 k)) (g := gh.1) (hs := gh.2) (M := wr M 10 k (nI h)) ?_ hw.2.2.1.2.2 (fun M1 r1 r2 r3 r4 => ?_)
          · have := hcg.h
            unfold RCh at this ⊢
            simpa [wr] using this
          refine sg_G_raise_9_19 M1 _ _ _ ?_
          refine sg_C_raises_0_72 M1 _ _ _ _ _ ?_
          have ra := RC.act (gh' := (rsG k h gh.1, more (2, k, gHt gh.1 k) gh.1 gh.2)) (M' := M1) hc (fun q hq => by rw [r2 q (by omega) (by omega) (by omega) (by omega), wr_ne _ (by omega)]) r4 ?_
          · exact hQ _ ra.1 ra.2
          · obtain ⟨k1, k2, k3, k4, k5, k6⟩ := hcg
            refine ⟨fun j hj htj => ?_, fun u hu => ?_, fun z hz => ?_, ?_, ?_, r1.1, r1.2⟩
            · rw [r2 10 (by decide) (by decide) (by decide) (by decide), upd_row]
              show _ = nI (if j = k then h else gHt gh.1 j)
              by_cases q : j = k
              · rw [if_pos q, if_pos q]
              · rw [if_neg q, if_neg q]; exact k1 j hj htj
            · rw [r2 11 (by decide) (by decide) (by decide) (by decide), wr_ne _ (by decide)]; exact k2 u hu
            · rw [r2 12 (by decide) (by decide) (by decide) (by decide), wr_ne _ (by decide)]; exact k3 z hz
            · rw [r3 3 (by decide), wr_ne _ (by decide)]; exact k4
            · rw [r3 4 (by decide), wr_ne _ (by decide)]; exact k5
        · rw [en, eh] at c
          exact absurd ((nI_eq (a := gHt gh.1 k) (b := h) (by omega) (by omega)).mp c) hne
  · refine ⟨-1, (t, p, gh, im, sn, tr), hup, Or.inl ⟨rfl, rs_bad hb⟩, fun M Q hc hQ => ?_⟩
    · have hcg : RCg 9 p gh M := hc.2.2.1
      have hd := hQ M hc (FrC.refl M)
      have bad : ¬ z_L_has_6 M x y = 0 → ¬ v < 0 → v ≤ 9 → False := fun c1 c2 c3 => hb ⟨by
        rw [has_C hp hc.2.1] at c1
        cases q : okc p x y with
        | true => rfl
        | false => rw [q] at c1; exact absurd rfl c1, Int32.not_lt.mp c2, c3⟩
      exact sg_C_raises_0_0 M _ _ _ (fun _ => hd) (fun _ _ => hd) (fun c1 c2 c3 _ => absurd (bad c1 c2 c3) id) (fun c1 c2 c3 _ => absurd (bad c1 c2 c3) id) (fun c1 c2 c3 _ _ => absurd (bad c1 c2 c3) id) (fun c1 c2 c3 _ _ => absurd (bad c1 c2 c3) id) (fun _ _ _ => hd)
