theorem k_lifts {B : Nat} {s : Sg} (hi : B ≤ 2580) (v w : Int32) (hw : WfS B s) : ∃ (r : Int32) (s' : Sg), WfS (B + 1) s' ∧ (s' = s ∨ Act s s') ∧ K0 mi_C_lifts 5 [.int v, .int w] s (.int r) s' := by
  obtain ⟨t, p, gh, im, sn, tr⟩ := s
  have hup := hw.up (show B ≤ B + 1 by omega)
  have hp : WfP p := hw.2.1
  have hg : WfG (B) p gh.1 := hw.2.2.1.1
  cases ho : okc p v w with
  | false =>
    refine ⟨-1, (t, p, gh, im, sn, tr), hup, Or.inl rfl, fun M Q hc hQ => ?_⟩
    · have hcg : RCg 9 p gh M := hc.2.2.1
      have e : z_L_has_6 M v w = 0 := by rw [has_C hp hc.2.1, ho]; rfl
      exact sg_C_lifts_0_0 M _ _ (fun c => absurd e c) (fun _ => hQ M hc (FrC.refl M))
  | true =>
    obtain ⟨k, hk, rfl, rfl, ht⟩ := okc_cell hp ho
    have en : z_C_numberOf (nI (k % 4)) (nI (k / 4)) = nI k := numOf k hk
    cases hs : gSl gh.1 k with
    | none =>
      refine ⟨-2, (t, p, gh, im, sn, tr), hup, Or.inl rfl, fun M Q hc hQ => ?_⟩
      · have hcg : RCg 9 p gh M := hc.2.2.1
        have e : ¬ z_L_has_6 M (nI (k % 4)) (nI (k / 4)) = 0 := by rw [has_C hp hc.2.1, ho]; decide
        refine sg_C_lifts_0_0 M _ _ (fun _ => ?_) (fun c => absurd c e)
        rw [en]
        refine wx_slabOn hg hcg hk ?_
        refine sg_C_lifts_0_26 M _ _ _ (fun c => ?_) (fun _ => hQ M hc (FrC.refl M))
        unfold ulI at c; rw [hs] at c; exact absurd rfl c
    | some c =>
      obtain ⟨a1, a2, -, a4⟩ := szAt_of hg hs
      obtain ⟨z, u, hz, hu, rfl⟩ : ∃ z u, z < 4 ∧ u < 16 ∧ c = 16 * z + u := ⟨c / 16, c % 16, by omega, by omega, by omega⟩
      have em : (16 * z + u) % 16 = u := by omega
      have ed : (16 * z + u) / 16 = z := by omega
      rw [em, ed] at a1
      obtain ⟨w1, w2, w3⟩ := lift_ok hg a1
      have hwh : WfH (B + 1) p (rmv (16 * z + u) gh.1, more (1, u, z + (if gTd gh.1 u = true then 4 else 0)) gh.1 gh.2) := wfh_more (by omega) hw.2.2.1 (w1.up (by omega)) w2 w3
      refine ⟨nI z, (t, p, (rmv (16 * z + u) gh.1, more (1, u, z + (if gTd gh.1 u = true then 4 else 0)) gh.1 gh.2), im, sn, tr), WfS.act (by omega) hw hwh, Or.inr ⟨_, rmv (16 * z + u) gh.1, Nat.le_succ _, rfl⟩, fun M Q hc hQ => ?_⟩
      · have hcg : RCg 9 p gh M := hc.2.2.1
        have e : ¬ z_L_has_6 M (nI (k % 4)) (nI (k / 4)) = 0 := by rw [has_C hp hc.2.1, ho]; decide
        refine sg_C_lifts_0_0 M _ _ (fun _ => ?_) (fun c => absurd c e)
        rw [en]
        refine wx_slabOn hg hcg hk ?_
        have eu : ulI gh.1 k = nI u := by unfold ulI; rw [hs]; dsimp only; rw [em]
        rw [eu]
        refine sg_C_lifts_0_26 M _ _ _ (fun _ => ?_) (fun c => absurd c (nI_nm9 (by omega)))
        have e11 : M.1 11 (nI u).toNatClampNeg = nI z := by
          rw [nI_clamp (by omega)]
          have := hcg.2.1 u hu
          rw [a1] at this
          exact this
        have etd := isTodays_C hg hcg hu
        rw [a1] at etd
        have tail : ∀ q : Nat, q = z + (if gTd gh.1 u = true then 4 else 0) → WX mi_G_take 3 (fun rv M' => WX mi_G_lift 4 (fun rv M' => WX mi_C_lifts 5 Q 44 [some (.ref 0), some (.int (nI (k % 4))), some (.int (nI (k / 4))), some (.int (nI u))] (rv.toList ++ []) M') 27 [some (.ref 9), some (.int (nI u)), some (.int (nI z)), some (.int (nI q))] (rv.toList ++ []) M') 0 [some (.ref 9), some (.int (nI u)), none] [] M := by
          intro q hq
          refine wx_take hg a1 (RCg_iff.mp hcg).1 (fun M1 r1 r2 r3 r4 => ?_)
          refine sg_G_lift_9_27 M1 _ _ _ ?_
          refine wx_remember (e := (1, u, q)) (g := gh.1) (hs := gh.2) (M := M1) ?_ hw.2.2.1.2.2 (fun M2 q1 q2 q3 q4 => ?_)
          · have := hcg.h
            unfold RCh at this ⊢
            rw [r3 8 (by decide), r2 13 (by decide) (by decide) (by decide), r2 14 (by decide) (by decide) (by decide), r2 15 (by decide) (by decide) (by decide)]
            exact this
          refine sg_G_lift_9_34 M2 _ _ _ ?_
          refine sg_C_lifts_0_44 M2 _ _ _ _ ?_
          have rx : RCx 9 p (rmv (16 * z + u) gh.1) M2 := by
            unfold RCx at r1 ⊢
            rw [q2 10 (by decide) (by decide) (by decide) (by decide), q2 11 (by decide) (by decide) (by decide) (by decide), q2 12 (by decide) (by decide) (by decide) (by decide), q3 3 (by decide), q3 4 (by decide)]
            exact r1
          rw [hq] at q1
          have ra := RC.act (gh' := (rmv (16 * z + u) gh.1, more (1, u, z + (if gTd gh.1 u = true then 4 else 0)) gh.1 gh.2)) (M' := M2) hc (fun q hq => by rw [q2 q (by omega) (by omega) (by omega) (by omega), r2 q (by omega) (by omega) (by omega)]) (by rw [q4, r4]) (RCg_iff.mpr ⟨rx, q1⟩)
          exact hQ _ ra.1 ra.2
        refine sg_G_lift_9_0 M _ (vp_in_nI hu (by decide)) (fun c => ?_) (fun c => ?_)
        · rw [e11]
          refine tail z ?_
          rw [etd, bI_0] at c
          have c' : gTd gh.1 u = false := by simpa using c
          rw [c']; rfl
        · rw [e11, td_nI z hz]
          refine tail (z + 4) ?_
          rw [etd, bI_0] at c
          have c' : gTd gh.1 u = true := by simpa using c
          rw [c']; rfl
