/-! ===== lifts, undo ===== -/
theorem sz_ath {B : Nat} {p : Pl} {g : Gd} {z u : Nat} (hp : WfP p) (hg : WfG B p g) (h : szAt g u = some z) : ath p z u = true := by
  obtain ⟨hu, hz, h3, h4, h5⟩ := szAt_some hg h
  exact (ath_fit hp hz hu).mpr ⟨h4, fun k hk => ⟨(h5 k hk).1, layb_thr (h5 k hk).2.1⟩⟩
theorem td_nI : ∀ z, z < 4 → nI z + 4 = nI (z + 4) := by decide +kernel
theorem a_lifts (v w : Int32) : Agr Inv mi_C_lifts mi_M_lifts 5 4 [.int v, .int w] := by
  refine agr_ofi (fun i s M hi hw hc hm => ?_)
  obtain ⟨t, p, gh, im, sn, tr⟩ := s
  have hup := hw.up (show 20 + i ≤ 20 + (i + 1) by omega)
  have hp : WfP p := hw.2.1
  have hg : WfG (20 + i) p gh.1 := hw.2.2.1.1
  have hcg : RCg 9 p gh M := hc.2.2.1
  cases ho : okc p v w with
  | false =>
    have e : z_L_has_6 M v w = 0 := by rw [has_C hp hc.2.1, ho]; rfl
    refine ⟨-1, (t, p, gh, im, sn, tr), hup, fun Q hQ => ?_, fun M1 Q hm1 hQ => ?_⟩
    · exact sg_C_lifts_0_0 M _ _ (fun c => absurd e c) (fun _ => hQ M hc (FrC.refl M))
    · have e' : z_M_isCell_37 M1 v w = 0 := by rw [isCell_M hp hm1.2.1, ho]; rfl
      exact sg_M_lifts_37_0 M1 _ _ (fun c => absurd e' c) (fun c => absurd e' c) (fun c => absurd e' c) (fun _ => hQ M1 hm1 (FrM.refl M1))
  | true =>
    have e : ¬ z_L_has_6 M v w = 0 := by rw [has_C hp hc.2.1, ho]; decide
    have e' : ∀ M1, RM (t, p, gh, im, sn, tr) M1 → ¬ z_M_isCell_37 M1 v w = 0 := fun M1 h => by rw [isCell_M hp h.2.1, ho]; decide
    obtain ⟨k, hk, rfl, rfl, ht⟩ := okc_cell hp ho
    have en : z_C_numberOf (nI (k % 4)) (nI (k / 4)) = nI k := numOf k hk
    have e16 : ((16 : Int32) + (4 * nI (k / 4))) + nI (k % 4) = nI (16 + k) := by
      have : ∀ k, k < 16 → ((16 : Int32) + (4 * nI (k / 4))) + nI (k % 4) = nI (16 + k) := by decide +kernel
      exact this k hk
    have bnd : vp_in (((16 : Int32) + (4 * nI (k / 4))) + nI (k % 4)) 1257 := by rw [e16]; exact vp_in_nI (by omega) (by decide)
    have eM : ∀ M1, RM (t, p, gh, im, sn, tr) M1 → M1.1 46 (((16 : Int32) + (4 * nI (k / 4))) + nI (k % 4)).toNatClampNeg = eSl (gSl gh.1 k) := fun M1 h => by rw [e16, nI_clamp (by omega)]; exact h.sl hk
    cases hs : gSl gh.1 k with
    | none =>
      refine ⟨-2, (t, p, gh, im, sn, tr), hup, fun Q hQ => ?_, fun M1 Q hm1 hQ => ?_⟩
      · refine sg_C_lifts_0_0 M _ _ (fun _ => ?_) (fun c => absurd c e)
        rw [en]
        refine wx_slabOn hg hcg hk ?_
        refine sg_C_lifts_0_26 M _ _ _ (fun c => ?_) (fun _ => hQ M hc (FrC.refl M))
        unfold ulI at c; rw [hs] at c; exact absurd rfl c
      · refine sg_M_lifts_37_0 M1 _ _ (fun _ => bnd) (fun _ c => ?_) (fun _ _ => hQ M1 hm1 (FrM.refl M1)) (fun c => absurd c (e' M1 hm1))
        rw [eM M1 hm1, hs] at c; exact absurd rfl c
    | some c =>
      obtain ⟨a1, a2, -, a4⟩ := szAt_of hg hs
      obtain ⟨z, u, hz, hu, rfl⟩ : ∃ z u, z < 4 ∧ u < 16 ∧ c = 16 * z + u := ⟨c / 16, c % 16, by omega, by omega, by omega⟩
      have em : (16 * z + u) % 16 = u := by omega
      have ed : (16 * z + u) / 16 = z := by omega
      rw [em, ed] at a1
      obtain ⟨w1, w2, w3⟩ := lift_ok hg a1
      have hwh : WfH (20 + (i + 1)) p (rmv (16 * z + u) gh.1, more (1, u, z + (if gTd gh.1 u = true then 4 else 0)) gh.1 gh.2) := wfh_more (by omega) hw.2.2.1 (w1.up (by omega)) w2 w3
      refine ⟨nI z, (t, p, (rmv (16 * z + u) gh.1, more (1, u, z + (if gTd gh.1 u = true then 4 else 0)) gh.1 gh.2), im, sn, tr), WfS.act (by omega) hw hwh, fun Q hQ => ?_, fun M1 Q hm1 hQ => ?_⟩
      · refine sg_C_lifts_0_0 M _ _ (fun _ => ?_) (fun c => absurd c e)
        rw [en]
        refine wx_slabOn hg hcg hk ?_
        have eu : ulI gh.1 k = nI u := by unfold ulI; rw [hs]; dsimp only; rw [em]
        rw [eu]
        refine sg_C_lifts_0_26 M _ _ _ (fun _ => ?_) (fun c => absurd c (nI_nm9 (by omega)))
        have e11 : M.1 11 (nI u).toNatClampNeg = nI z := by
          rw [nI_clamp (by omega)]
          have := hcg.2.1 u hu
          rw [a1] at this
          exact this
        have etd := isTodays_C hg hcg hu
        rw [a1] at etd
        have tail : ∀ q : Nat, q = z + (if gTd gh.1 u = true then 4 else 0) → WX mi_G_take 3 (fun rv M' => WX mi_G_lift 4 (fun rv M' => WX mi_C_lifts 5 Q 44 [some (.ref 0), some (.int (nI (k % 4))), some (.int (nI (k / 4))), some (.int (nI u))] (rv.toList ++ []) M') 27 [some (.ref 9), some (.int (nI u)), some (.int (nI z)), some (.int (nI q))] (rv.toList ++ []) M') 0 [some (.ref 9), some (.int (nI u)), none] [] M := by
          intro q hq
          refine wx_take hg a1 (RCg_iff.mp hcg).1 (fun M1 r1 r2 r3 r4 => ?_)
          refine sg_G_lift_9_27 M1 _ _ _ ?_
          refine wx_remember (e := (1, u, q)) (g := gh.1) (hs := gh.2) (M := M1) ?_ hw.2.2.1.2.2 (fun M2 q1 q2 q3 q4 => ?_)
          · have := hcg.h
            unfold RCh at this ⊢
            rw [r3 8 (by decide), r2 13 (by decide) (by decide) (by decide), r2 14 (by decide) (by decide) (by decide), r2 15 (by decide) (by decide) (by decide)]
            exact this
          refine sg_G_lift_9_34 M2 _ _ _ ?_
          refine sg_C_lifts_0_44 M2 _ _ _ _ ?_
          have rx : RCx 9 p (rmv (16 * z + u) gh.1) M2 := by
            unfold RCx at r1 ⊢
            rw [q2 10 (by decide) (by decide) (by decide) (by decide), q2 11 (by decide) (by decide) (by decide) (by decide), q2 12 (by decide) (by decide) (by decide) (by decide), q3 3 (by decide), q3 4 (by decide)]
            exact r1
          rw [hq] at q1
          have ra := RC.act (gh' := (rmv (16 * z + u) gh.1, more (1, u, z + (if gTd gh.1 u = true then 4 else 0)) gh.1 gh.2)) (M' := M2) hc (fun q hq => by rw [q2 q (by omega) (by omega) (by omega) (by omega), r2 q (by omega) (by omega) (by omega)]) (by rw [q4, r4]) (RCg_iff.mpr ⟨rx, q1⟩)
          exact hQ _ ra.1 ra.2
        refine sg_G_lift_9_0 M _ (vp_in_nI hu (by decide)) (fun c => ?_) (fun c => ?_)
        · rw [e11]
          refine tail z ?_
          rw [etd, bI_0] at c
          have c' : gTd gh.1 u = false := by simpa using c
          rw [c']; rfl
        · rw [e11, td_nI z hz]
          refine tail (z + 4) ?_
          rw [etd, bI_0] at c
          have c' : gTd gh.1 u = true := by simpa using c
          rw [c']; rfl
      · refine sg_M_lifts_37_0 M1 _ _ (fun _ => bnd) (fun _ _ => ?_) (fun _ c => ?_) (fun c => absurd c (e' M1 hm1))
        · rw [eM M1 hm1, hs]
          refine wx_know (e := (1, u, z + (if gTd gh.1 u = true then 4 else 0))) (g := gh.1) (hs := gh.2) hm1.2.2.1 hw.2.2.1.2.2 (fun M2 r1 r2 r3 r4 => ?_)
          refine sg_M_lifts_37_38 M2 _ _ _ ?_
          have hm2p : RMp p M2 := by
            have := hm1.2.1
            unfold RMp at this ⊢
            rw [r3 39 (by decide), r3 40 (by decide), r3 41 (by decide), r3 42 (by decide), r3 43 (by decide)]
            exact this
          show WX mi_M_cellsOf 3 _ 0 [some (.ref 37), some (.int (nI (16 * z + u) / 16)), some (.int (rem (nI (16 * z + u)) 16)), none, none, none, none] [] M2
          show WX mi_M_cellsOf 3 (fun rv M' => WX mi_M_lifts 4 Q 54 [some (.ref 37), some (.int (nI (k % 4))), some (.int (nI (k / 4))), some (.int (nI (16 * z + u))), some (.int (nI (16 * z + u) / 16)), none] (rv.toList ++ []) M') 0 [some (.ref 37), some (.int (nI (16 * z + u) / 16)), some (.int (rem (nI (16 * z + u)) 16)), none, none, none, none] [] M2
          rw [div16 _ (by omega), rem16 _ (by omega), em, ed]
          refine wx_cellsOf hp hm2p hz hu ?_
          have ha := sz_ath hp hg a1
          rw [if_pos ha, acc_sI hp hz hu ha]
          refine sg_M_lifts_37_54 M2 _ _ _ _ _ ?_
          refine wx_putM (fun M3 s1 s2 s3 => ?_)
          have e32 : (32 : Int32) + nI z = nI (32 + z) := by rw [show (32 : Int32) = nI 32 from rfl, nI_add]
          refine sg_M_lifts_37_69 M3 _ _ _ _ _ (by rw [e32]; exact vp_in_nI (by omega) (by decide)) ?_
          have b2 := r1.1
          have st3 : M3.1 46 (32 + z) = nI (gSt gh.1 z) := by
            rw [s1, if_neg (by omega)]
            have := b2.2.2.1 z hz
            simpa using this
          have t3 : M3.1 46 36 = sI (gTd gh.1) := by
            rw [s1, if_neg (by omega)]
            have := b2.2.2.2.1
            simpa using this
          rw [e32, nI_clamp (by omega), t3, sI_diff]
          have hz36 : 32 + z ≠ 36 := by omega
          have es3 : (wr M3 46 36 (sI (fun k_1 => gTd gh.1 k_1 && !inS (16 * z + u) k_1))).1 46 (32 + z) + 1 = nI (gSt gh.1 z + 1) := by
            rw [upd_row, if_neg hz36, st3]
            exact nI_1 _
          rw [es3]
          have rw3 : ∀ j, (wr (wr M3 46 36 (sI (fun k_1 => gTd gh.1 k_1 && !inS (16 * z + u) k_1))) 46 (32 + z) (nI (gSt gh.1 z + 1))).1 46 j = if j = 32 + z then nI (gSt gh.1 z + 1) else if j = 36 then sI (fun k_1 => gTd gh.1 k_1 && !inS (16 * z + u) k_1) else M3.1 46 j := fun j => by rw [upd_row, upd_row]
          have ra := RM.act (gh' := (rmv (16 * z + u) gh.1, more (1, u, z + (if gTd gh.1 u = true then 4 else 0)) gh.1 gh.2)) (M' := wr (wr M3 46 36 (sI (fun k_1 => gTd gh.1 k_1 && !inS (16 * z + u) k_1))) 46 (32 + z) (nI (gSt gh.1 z + 1))) hm1 (fun q hq => by rw [wr_ne _ hq, wr_ne _ hq, s2 q hq, r3 q hq]) (fun j hj => by rw [rw3, if_neg (by omega), if_neg (by omega), s1, if_neg (by omega), r2 j (by omega)]) (by show M3.2 = _; rw [s3, r4]) ?_
          · exact hQ _ ra.1 ra.2
          · refine RMg.hs r1 (blk_rmv hz hu b2 (fun j hj => ?_) (fun j hj => ?_) (fun y hy => ?_) ?_ ?_) (fun j hj => ?_)
            · rw [rw3, if_neg (by omega), if_neg (by omega), s1, if_neg (by omega)]
            · rw [rw3, if_neg (by omega), if_neg (by omega), s1, show 16 + j - 16 = j by omega]
              by_cases hq : inS (16 * z + u) j = true
              · rw [if_pos ⟨by omega, by omega, hq⟩, if_pos hq]
              · rw [if_neg (fun q => hq q.2.2), if_neg hq]
            · rw [rw3]
              by_cases hq : y = z
              · rw [if_pos (by omega), if_pos hq, hq]
                have := b2.2.2.1 z hz
                rw [Nat.zero_add] at this
                rw [this]
                exact (nI_1 _).symm
              · rw [if_neg (by omega), if_neg (by omega), if_neg hq, s1, if_neg (by omega)]
            · rw [rw3, if_neg (by omega), if_pos rfl]
              exact sI_ext fun j _ => by cases inS (16 * z + u) j <;> simp
            · rw [rw3, if_neg (by omega), if_neg (by omega), s1, if_neg (by omega)]
            · rw [rw3, if_neg (by omega), if_neg (by omega), s1, if_neg (by omega)]
        · rw [eM M1 hm1, hs] at c
          exact absurd c (nI_nm9 (by omega))
