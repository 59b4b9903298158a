theorem k_mark {B : Nat} {s : Sg} (x v w : Int32) (hw : WfS B s) : ∃ (r : Int32) (s' : Sg), WfS (B + 1) s' ∧ (Tm s s') ∧ K0 mi_C_mark 6 [.int x, .int v, .int w] s (.int r) s' := by
  obtain ⟨t, p, gh, im, sn, tr⟩ := s
  have hup := hw.up (show B ≤ B + 1 by omega)
  have hp : WfP p := hw.2.1
  by_cases hb : (0 ≤ x ∧ x ≤ 5) ∧ okc p v w = true
  · obtain ⟨hx, ho⟩ := hb
    obtain ⟨k, hk, rfl, rfl, ht⟩ := okc_cell hp ho
    have en : z_C_numberOf (nI (k % 4)) (nI (k / 4)) = nI k := numOf k hk
    have en' : (4 * nI (k / 4)) + nI (k % 4) = nI k := numOf' hk
    refine ⟨mkA p gh.1 k x, (t, p, gh, im, sn, tr + mkT x), ⟨hup.1, hup.2.1, hup.2.2.1, hup.2.2.2⟩, Tm.of rfl rfl rfl rfl, fun M Q hc hQ => ?_⟩
    · have hcg : RCg 9 p gh M := hc.2.2.1
      have e : ¬ z_L_has_6 M (nI (k % 4)) (nI (k / 4)) = 0 := by rw [has_C hp hc.2.1, ho]; decide
      have eh : M.1 10 k = nI (gHt gh.1 k) := hcg.1 k hk ht
      have ed : M.1 9 4 = nI (gDy gh.1) := hcg.2.2.2.2.1
      have et : M.2 0 = tr := hc.2.2.2.2.2
      have fin := hQ _ (hc.trc (tr + mkT x)).1 (hc.trc (tr + mkT x)).2
      refine sg_C_mark_0_0 M _ _ _ (fun _ c => ?_) (fun _ c => ?_) (fun _ c => ?_) (fun _ c => ?_) (fun _ c => ?_) (fun _ c => ?_) (fun _ c0 c1 c2 c3 c4 c5 => ?_) (fun c => absurd c e)
      · rw [en]
        refine wx_markCell hk (sg_C_mark_0_66 _ _ _ _ _ _ ?_)
        subst c
        rw [et, eh]
        exact fin
      · rw [en]
        refine wx_markTrue hp hk hc.2.1 (sg_C_mark_0_73 _ _ _ _ _ _ ?_)
        subst c
        rw [et, eh]
        exact fin
      · rw [en]
        refine wx_markLow hk (sg_C_mark_0_80 _ _ _ _ _ _ ?_)
        subst c
        rw [et, eh]
        exact fin
      · rw [en]
        refine sg_C_markRocking_0_0 _ _ ?_
        refine wx_markTrue hp hk hc.2.1 (sg_C_markRocking_0_17 _ _ _ (sg_C_mark_0_87 _ _ _ _ _ _ ?_))
        subst c
        rw [wrLL, wrL_at, et, Int64.add_assoc]
        show Q (some (.int ((M.1 10 k + nI (cW p k 4)) * 2))) _
        rw [eh]
        exact fin
      · rw [en]
        refine sg_C_markCut_0_0 _ _ ?_
        refine wx_markLow hk (sg_C_markCut_0_17 _ _ _ (sg_C_mark_0_94 _ _ _ _ _ _ ?_))
        subst c
        rw [wrLL, wrL_at, et, Int64.add_assoc, divOf k hk]
        show Q (some (.int ((M.1 10 k - nI (k % 4)) + nI (k / 4)))) _
        rw [eh]
        exact fin
      · rw [en]
        refine sg_C_markWet_0_0 _ _ ?_
        refine wx_markCell hk (sg_C_markWet_0_17 _ _ _ (sg_C_mark_0_101 _ _ _ _ _ _ ?_))
        subst c
        rw [wrLL, wrL_at, et, Int64.add_assoc]
        show Q (some (.int (M.1 10 k + M.1 9 4))) _
        rw [eh, ed]
        exact fin
      · rcases six_of hx with h | h | h | h | h | h
        · exact absurd h c0
        · exact absurd h c1
        · exact absurd h c2
        · exact absurd h c3
        · exact absurd h c4
        · exact absurd h c5
  · refine ⟨-1000000, (t, p, gh, im, sn, tr), hup, Tm.of rfl rfl rfl rfl, fun M Q hc hQ => ?_⟩
    · have hcg : RCg 9 p gh M := hc.2.2.1
      have hd := hQ M hc (FrC.refl M)
      have bad : ¬ z_L_has_6 M v w = 0 → (0 ≤ x ∧ x ≤ 5) → False := fun c2 c1 => hb ⟨c1, by
        rw [has_C hp hc.2.1] at c2
        cases q : okc p v w with
        | true => rfl
        | false => rw [q] at c2; exact absurd rfl c2⟩
      exact sg_C_mark_0_0 M _ _ _ (fun c c' => absurd (bad c (by rw [c']; decide)) id) (fun c c' => absurd (bad c (by rw [c']; decide)) id) (fun c c' => absurd (bad c (by rw [c']; decide)) id) (fun c c' => absurd (bad c (by rw [c']; decide)) id) (fun c c' => absurd (bad c (by rw [c']; decide)) id) (fun c c' => absurd (bad c (by rw [c']; decide)) id) (fun _ _ _ _ _ _ _ => hd) (fun _ => hd)
