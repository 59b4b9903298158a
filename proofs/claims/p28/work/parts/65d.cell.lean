theorem k_cell {B : Nat} {s : Sg} (x y w : Int32) (hw : WfS B s) : ∃ (r : Int32), (∀ k', k' < 16 → x = nI (k' % 4) → y = nI (k' / 4) → thr s.2.1 k' = true → w = 0 → r = nI (gHt s.2.2.1.1 k')) ∧ K1 mi_C_cell 5 [.int x, .int y, .int w] s (.int r) := by
  obtain ⟨t, p, gh, im, sn, tr⟩ := s
  have hp : WfP p := hw.2.1
  have hg : WfG (B) p gh.1 := hw.2.2.1.1
  cases ho : okc p x y with
  | false =>
    refine ⟨-1, ce_bad ho, fun M Q hc hQ => ?_⟩
    · have hcg : RCg 9 p gh M := hc.2.2.1
      have e : z_L_has_6 M x y = 0 := by rw [has_C hp hc.2.1, ho]; rfl
      have hd := hQ M (fun _ _ _ => rfl) (fun _ _ => rfl) rfl
      exact sg_C_cell_0_0 M x y w (fun _ => hd) (fun q => absurd e q) (fun q => absurd e q) (fun q => absurd e q)
  | true =>
    obtain ⟨k, hk, rfl, rfl, ht⟩ := okc_cell hp ho
    refine ⟨celA p gh.1 k w, ce_ok hk, fun M Q hc hQ => ?_⟩
    · have hcg : RCg 9 p gh M := hc.2.2.1
      have e : ¬ z_L_has_6 M (nI (k % 4)) (nI (k / 4)) = 0 := by rw [has_C hp hc.2.1, ho]; decide
      have hd := hQ M (fun _ _ _ => rfl) (fun _ _ => rfl) rfl
      have out : ∀ q : ¬ (0 ≤ w ∧ w ≤ 4), celA p gh.1 k w = -1 := by
        intro q
        have n : ∀ j : Int32, (0 ≤ j ∧ j ≤ 4) → ¬ w = j := fun j hj hwj => q (hwj ▸ hj)
        unfold celA
        rw [if_neg (n 0 (by decide)), if_neg (n 1 (by decide)), if_neg (n 2 (by decide)), if_neg (n 3 (by decide)), if_neg (n 4 (by decide))]
      refine sg_C_cell_0_0 M _ _ w (fun q => absurd q e) (fun _ q => ?_) (fun _ q1 q2 => ?_) (fun _ _ q => ?_)
      · rw [out (fun z => absurd q (Int32.not_lt.mpr z.1))] at hd
        exact hd
      · rw [numOf k hk]
        refine wx_slabOn hg hcg hk ?_
        have e16 : (nI k).toNatClampNeg = k := nI_clamp (by omega)
        have h4 : w = 0 ∨ w = 1 ∨ w = 2 ∨ w = 3 ∨ w = 4 := by
          obtain ⟨j, hj, rfl⟩ := nI_of2 (n := 4) (by decide) q1 q2
          have : j = 0 ∨ j = 1 ∨ j = 2 ∨ j = 3 ∨ j = 4 := by omega
          rcases this with rfl | rfl | rfl | rfl | rfl <;> decide
        have hul : ∀ c, gSl gh.1 k = some c → ulI gh.1 k = nI (c % 16) := fun c hs => by unfold ulI; rw [hs]
        refine sg_C_cell_0_39 M _ _ w (nI k) (ulI gh.1 k) (fun _ => vp_in_nI hk (by decide)) (fun q => ?_) (fun q => ?_) (fun q => ?_) (fun q => ?_) (fun n0 n1 n2 n3 q => ?_) (fun n0 n1 n2 n3 q => ?_)
        · rw [e16, hcg.1 k hk ht]
          unfold celA at hd
          rw [if_pos q] at hd
          exact hd
        · rw [sortOf_C hp hc.2.1 hk]
          subst q
          unfold celA at hd
          rw [if_neg (by decide), if_pos rfl] at hd
          exact hd
        · cases hs : gSl gh.1 k with
          | none =>
            rw [show ulI gh.1 k = -9 by unfold ulI; rw [hs], show z_G_sizeOf_9 M (-9) = -9 from if_pos (by decide)]
            subst q
            unfold celA at hd
            rw [if_neg (by decide), if_neg (by decide), if_pos rfl, hs] at hd
            exact hd
          | some c =>
            rw [hul c hs, show z_G_sizeOf_9 M (nI (c % 16)) = M.1 11 (nI (c % 16)).toNatClampNeg from if_neg (isNum_of_in (vp_in_nI (by omega) (by decide))), nI_clamp (by omega), hcg.2.1 (c % 16) (by omega), (szAt_of hg hs).1]
            subst q
            unfold celA at hd
            rw [if_neg (by decide), if_neg (by decide), if_pos rfl, hs] at hd
            exact hd
        · subst q
          unfold celA at hd
          rw [if_neg (by decide), if_neg (by decide), if_neg (by decide), if_pos rfl] at hd
          exact hd
        · have h5 : w = 4 := by
            rcases h4 with h | h | h | h | h
            · exact absurd h n0
            · exact absurd h n1
            · exact absurd h n2
            · exact absurd h n3
            · exact h
          unfold celA at hd
          rw [if_neg n0, if_neg n1, if_neg n2, if_neg n3, if_pos h5] at hd
          cases hs : gSl gh.1 k with
          | none => rw [td_none hg hs] at hd; exact hd
          | some c =>
            rw [hul c hs, isTodays_C hg hcg (by omega), (szAt_of hg hs).1, bI_0] at q
            rw [hg.2.2.2.1 k c hs] at hd
            have : gTd gh.1 (c % 16) = false := by simpa using q
            rw [this] at hd
            exact hd
        · have h5 : w = 4 := by
            rcases h4 with h | h | h | h | h
            · exact absurd h n0
            · exact absurd h n1
            · exact absurd h n2
            · exact absurd h n3
            · exact h
          unfold celA at hd
          rw [if_neg n0, if_neg n1, if_neg n2, if_neg n3, if_pos h5] at hd
          cases hs : gSl gh.1 k with
          | none => unfold ulI at q; rw [hs] at q; exact absurd (by unfold z_G_isTodays_9; rw [if_pos rfl]) q
          | some c =>
            rw [hul c hs, isTodays_C hg hcg (by omega), (szAt_of hg hs).1, bI_0] at q
            rw [hg.2.2.2.1 k c hs] at hd
            have : gTd gh.1 (c % 16) = true := by simpa using q
            rw [this] at hd
            exact hd
      · rw [out (fun z => q z.2)] at hd
        exact hd
