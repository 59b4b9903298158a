theorem k_now {B : Nat} {s : Sg} (x : Int32) (hw : WfS B s) : ∃ (r : Int32), K1 mi_C_now 5 [.int x] s (.int r) := by
  obtain ⟨t, p, gh, im, sn, tr⟩ := s
  have hp : WfP p := hw.2.1
  have hg : WfG (B) p gh.1 := hw.2.2.1.1
  have hh := ht_ok hg
  by_cases e0 : x = 0
  · subst e0
    refine ⟨nI (gDy gh.1), fun M Q hc hQ => ?_⟩
    · have hcg : RCg 9 p gh M := hc.2.2.1
      have fin := hQ M (fun _ _ _ => rfl) (fun _ _ => rfl) rfl
      refine sg_C_now_0_0 M _ (fun _ => ?_) (fun c => absurd c (by decide)) (fun c => absurd c (by decide)) (fun c => absurd c (by decide)) (fun c => absurd c (by decide)) (fun c => absurd c (by decide)) (fun c => absurd c (by decide)) (fun c => absurd c (by decide)) (fun c _ _ _ _ _ _ _ => absurd rfl c)
      rw [hcg.2.2.2.2.1]
      exact fin
  by_cases e1 : x = 1
  · subst e1
    refine ⟨sI (fre p gh.1), fun M Q hc hQ => ?_⟩
    · have hcg : RCg 9 p gh M := hc.2.2.1
      have fin := hQ M (fun _ _ _ => rfl) (fun _ _ => rfl) rfl
      refine sg_C_now_0_0 M _ (fun c => absurd c (by decide)) (fun _ => ?_) (fun c => absurd c (by decide)) (fun c => absurd c (by decide)) (fun c => absurd c (by decide)) (fun c => absurd c (by decide)) (fun c => absurd c (by decide)) (fun c => absurd c (by decide)) (fun _ c _ _ _ _ _ _ => absurd rfl c)
      exact wx_freeCells hp hg hc.2.1 hcg (sg_C_now_0_60 M _ _ fin)
  by_cases e2 : x = 2
  · subst e2
    refine ⟨nI (cntB (begS gh.1) 16), fun M Q hc hQ => ?_⟩
    · have hcg : RCg 9 p gh M := hc.2.2.1
      have fin := hQ M (fun _ _ _ => rfl) (fun _ _ => rfl) rfl
      refine sg_C_now_0_0 M _ (fun c => absurd c (by decide)) (fun c => absurd c (by decide)) (fun _ => ?_) (fun c => absurd c (by decide)) (fun c => absurd c (by decide)) (fun c => absurd c (by decide)) (fun c => absurd c (by decide)) (fun c => absurd c (by decide)) (fun _ _ c _ _ _ _ _ => absurd rfl c)
      exact wx_slabCount hg hcg (sg_C_now_0_68 M _ _ fin)
  by_cases e3 : x = 3
  · subst e3
    refine ⟨sI (pud p (gHt gh.1)), fun M Q hc hQ => ?_⟩
    · have hcg : RCg 9 p gh M := hc.2.2.1
      have fin := hQ M (fun _ _ _ => rfl) (fun _ _ => rfl) rfl
      refine sg_C_now_0_0 M _ (fun c => absurd c (by decide)) (fun c => absurd c (by decide)) (fun c => absurd c (by decide)) (fun _ => ?_) (fun c => absurd c (by decide)) (fun c => absurd c (by decide)) (fun c => absurd c (by decide)) (fun c => absurd c (by decide)) (fun _ _ _ c _ _ _ _ => absurd rfl c)
      refine wx_fill hp hc.2.1 hh hcg.1 (fun M1 r1 r2 r3 => ?_)
      have fin := hQ M1 (fun q _ hs => r2 q (fun q' => hs (by unfold scrC; omega))) (fun q hq => r2 q (by omega)) r3
      refine sg_C_now_0_84 M1 _ ?_
      exact wx_puddles hh r1 (sg_C_now_0_91 M1 _ _ fin)
  by_cases e4 : x = 4
  · subst e4
    refine ⟨nI (cntB (crs gh.1) 16), fun M Q hc hQ => ?_⟩
    · have hcg : RCg 9 p gh M := hc.2.2.1
      have fin := hQ M (fun _ _ _ => rfl) (fun _ _ => rfl) rfl
      refine sg_C_now_0_0 M _ (fun c => absurd c (by decide)) (fun c => absurd c (by decide)) (fun c => absurd c (by decide)) (fun c => absurd c (by decide)) (fun _ => ?_) (fun c => absurd c (by decide)) (fun c => absurd c (by decide)) (fun c => absurd c (by decide)) (fun _ _ _ _ c _ _ _ => absurd rfl c)
      refine wx_covered hg hcg (sg_C_now_0_99 M _ _ ?_)
      refine wx_joined_2 hg hcg (sg_C_now_0_109 M _ _ _ ?_)
      refine wx_joined_3 hg hcg (sg_C_now_0_119 M _ _ _ _ ?_)
      rw [cross_C hg, bitCount_sI]
      exact fin
  by_cases e5 : x = 5
  · subst e5
    refine ⟨nI (smN gh.1 4 0), fun M Q hc hQ => ?_⟩
    · have hcg : RCg 9 p gh M := hc.2.2.1
      have fin := hQ M (fun _ _ _ => rfl) (fun _ _ => rfl) rfl
      refine sg_C_now_0_0 M _ (fun c => absurd c (by decide)) (fun c => absurd c (by decide)) (fun c => absurd c (by decide)) (fun c => absurd c (by decide)) (fun c => absurd c (by decide)) (fun _ => ?_) (fun c => absurd c (by decide)) (fun c => absurd c (by decide)) (fun _ _ _ _ _ c _ _ => absurd rfl c)
      refine wx_covered hg hcg (sg_C_now_0_133 M _ _ ?_)
      refine wx_joined_2 hg hcg (sg_C_now_0_143 M _ _ _ ?_)
      refine wx_joined_3 hg hcg (sg_C_now_0_153 M _ _ _ _ ?_)
      exact wx_longestSeam hg (sg_C_now_0_156 M _ _ fin)
  by_cases e6 : x = 6
  · subst e6
    refine ⟨nI (alN gh.1), fun M Q hc hQ => ?_⟩
    · have hcg : RCg 9 p gh M := hc.2.2.1
      have fin := hQ M (fun _ _ _ => rfl) (fun _ _ => rfl) rfl
      refine sg_C_now_0_0 M _ (fun c => absurd c (by decide)) (fun c => absurd c (by decide)) (fun c => absurd c (by decide)) (fun c => absurd c (by decide)) (fun c => absurd c (by decide)) (fun c => absurd c (by decide)) (fun _ => ?_) (fun c => absurd c (by decide)) (fun _ _ _ _ _ _ c _ => absurd rfl c)
      exact wx_alikePairs hg hcg (sg_C_now_0_164 M _ _ fin)
  by_cases e7 : x = 7
  · subst e7
    refine ⟨sI (gTd gh.1), fun M Q hc hQ => ?_⟩
    · have hcg : RCg 9 p gh M := hc.2.2.1
      have fin := hQ M (fun _ _ _ => rfl) (fun _ _ => rfl) rfl
      refine sg_C_now_0_0 M _ (fun c => absurd c (by decide)) (fun c => absurd c (by decide)) (fun c => absurd c (by decide)) (fun c => absurd c (by decide)) (fun c => absurd c (by decide)) (fun c => absurd c (by decide)) (fun c => absurd c (by decide)) (fun _ => ?_) (fun _ _ _ _ _ _ _ c => absurd rfl c)
      exact wx_todaysCells hg hcg (sg_C_now_0_172 M _ _ fin)
  refine ⟨-1, fun M Q hc hQ => ?_⟩
  · have hcg : RCg 9 p gh M := hc.2.2.1
    exact sg_C_now_0_0 M _ (fun c => absurd c e0) (fun c => absurd c e1) (fun c => absurd c e2) (fun c => absurd c e3) (fun c => absurd c e4) (fun c => absurd c e5) (fun c => absurd c e6) (fun c => absurd c e7) (fun _ _ _ _ _ _ _ _ => hQ M (fun _ _ _ => rfl) (fun _ _ => rfl) rfl)
