theorem isSize_iff (x : Int32) : ¬ z_C_isSize x = 0 ↔ (0 ≤ x ∧ x ≤ 3) := by
  unfold z_C_isSize
  by_cases h1 : x < 0
  · rw [if_pos h1]
    exact ⟨fun q => absurd rfl q, fun q => absurd h1 (Int32.not_lt.mpr q.1)⟩
  · rw [if_neg h1]
    by_cases h2 : 4 ≤ x
    · rw [if_pos h2]
      refine ⟨fun q => absurd rfl q, fun q => absurd (Int32.le_trans h2 q.2) (by decide)⟩
    · rw [if_neg h2]
      have h1' := Int32.not_lt.mp h1
      have h2' := Int32.not_le.mp h2
      refine ⟨fun _ => ⟨h1', ?_⟩, fun _ => by decide⟩
      rw [Int32.le_iff_toInt_le]
      rw [Int32.lt_iff_toInt_lt] at h2'
      have e4 : (4 : Int32).toInt = 4 := rfl
      have e3 : (3 : Int32).toInt = 3 := rfl
      omega
theorem in_iff (x : Int32) : ¬ z_M_in x 0 3 = 0 ↔ (0 ≤ x ∧ x ≤ 3) := by
  rw [in_bI, bI_0]
  simp
theorem nI_le0 {n : Nat} (h : n < 2 ^ 31) : nI n ≤ 0 ↔ n = 0 := by
  rw [Int32.le_iff_toInt_le, nI_toInt h, show (0 : Int32).toInt = 0 from rfl]
  omega
theorem nI_is0 {n : Nat} (h : n < 2 ^ 31) : nI n = 0 ↔ n = 0 := nI_eq (b := 0) h (by decide)
theorem RMg.hs {p : Pl} {g g' : Gd} {hs : Hs} {f f' : Nat → Int32} (h : RMg 0 p (g, hs) f) (hb : blk 0 p g' f') (he : ∀ j, 38 ≤ j → f' j = f j) : RMg 0 p (g', hs) f' :=
  ⟨hb, by rw [he _ (by omega)]; exact h.2.1, fun j e hj => blk_congr (h.2.2 j e hj) (fun k _ => he _ (by omega))⟩
theorem a_lays (x v w : Int32) : Agr Inv mi_C_lays mi_M_lays 5 5 [.int x, .int v, .int w] := by
  refine agr_ofi (fun i s M hi hw hc hm => ?_)
  obtain ⟨t, p, gh, im, sn, tr⟩ := s
  have hup := hw.up (show 20 + i ≤ 20 + (i + 1) by omega)
  have hp : WfP p := hw.2.1
  have hg : WfG (20 + i) p gh.1 := hw.2.2.1.1
  have hcg : RCg 9 p gh M := hc.2.2.1
  by_cases hb : (0 ≤ x ∧ x ≤ 3) ∧ okc p v w = true
  · obtain ⟨hx, ho⟩ := hb
    have e : ¬ z_L_has_6 M v w = 0 := by rw [has_C hp hc.2.1, ho]; decide
    have e' : ∀ M1, RM (t, p, gh, im, sn, tr) M1 → ¬ z_M_isCell_37 M1 v w = 0 := fun M1 h => by rw [isCell_M hp h.2.1, ho]; decide
    have es := (isSize_iff x).mpr hx
    have ei := (in_iff x).mpr hx
    obtain ⟨k, hk, rfl, rfl, ht⟩ := okc_cell hp ho
    obtain ⟨z, hz, rfl⟩ := nI_of2 (n := 3) (by decide) (Int32.not_lt.mpr hx.1) hx.2
    have hz4 : z < 4 := by omega
    have en : z_C_numberOf (nI (k % 4)) (nI (k / 4)) = nI k := numOf k hk
    have en' : (4 * nI (k / 4)) + nI (k % 4) = nI k := numOf' hk
    have ez : (nI z).toNatClampNeg = z := nI_clamp (by omega)
    have hst : gSt gh.1 z ≤ 20 + i := hg.2.2.2.2.2 z hz4
    have ec12 : M.1 12 (nI z).toNatClampNeg = nI (gSt gh.1 z) := by rw [ez]; exact hcg.2.2.1 z hz4
    have e32 : (32 : Int32) + nI z = nI (32 + z) := by rw [show (32 : Int32) = nI 32 from rfl, nI_add]
    have bnd : vp_in (32 + nI z) 1257 := by rw [e32]; exact vp_in_nI (by omega) (by decide)
    have cl : ∀ {M0 : Mem} {Q}, RM (t, p, gh, im, sn, tr) M0 → Q (some (.int (sI (fre p gh.1)))) M0 → WX mi_M_freeBy 4 Q 0 [some (.ref 37), some (.ref 46), some (.int 16), none, none] [] M0 := by
      intro M0 Q h0 hQ
      exact wx_freeBy46 (o := 16) (sl := gSl gh.1) hp h0.2.1 (by decide) (fun k hk => h0.sl hk) (fun k c h => (hg.2.1 k c h).2.1.1) hQ
    by_cases hl : lyO p gh.1 (16 * z + k) ∧ 0 < gSt gh.1 z
    · obtain ⟨hl, hs⟩ := hl
      obtain ⟨w1, w2, w3⟩ := lay_ok (t := true) hz4 hk hg hl hs
      have hwh : WfH (20 + (i + 1)) p (putc (16 * z + k) true gh.1, more (0, k, 0) gh.1 gh.2) := wfh_more (by omega) hw.2.2.1 (w1.up (by omega)) w2 w3
      refine ⟨nI (gSt gh.1 z - 1), (t, p, (putc (16 * z + k) true gh.1, more (0, k, 0) gh.1 gh.2), im, sn, tr), WfS.act (by omega) hw hwh, fun Q hQ => ?_, fun M1 Q hm1 hQ => ?_⟩
      · refine sg_C_lays_0_0 M _ _ _ (fun c => absurd c es) (fun _ _ => vp_in_nI hz4 (by decide)) (fun _ _ c => ?_) (fun _ _ _ => ?_) (fun _ c => absurd c e)
        · rw [ec12] at c
          have := (nI_le0 (by omega)).mp c
          omega
        · rw [en]
          refine wx_freeCells hp hg hc.2.1 hcg ?_
          refine sg_C_lays_0_47 M _ _ _ _ _ _ _ (fun _ _ => vp_in_nI hz4 (by decide)) (fun _ _ _ _ _ => vp_in_nI hz4 (by decide)) (fun _ => ?_) (fun c => absurd c ((fits_C hz4 hk).mpr hl))
          refine sg_G_lay_9_0 M _ _ ?_
          refine wx_put (t := true) hz4 hk hg hl hs (RCg_iff.mp hcg).1 (fun M1 r1 r2 r3 r4 => ?_)
          refine sg_G_lay_9_7 M1 _ _ ?_
          refine wx_remember (e := (0, k, 0)) (g := gh.1) (hs := gh.2) (M := M1) ?_ hw.2.2.1.2.2 (fun M2 q1 q2 q3 q4 => ?_)
          · have := hcg.h
            unfold RCh at this ⊢
            rw [r3 8 (by decide), r2 13 (by decide) (by decide) (by decide), r2 14 (by decide) (by decide) (by decide), r2 15 (by decide) (by decide) (by decide)]
            exact this
          refine sg_G_lay_9_14 M2 _ _ ?_
          refine sg_C_lays_0_66 M2 _ _ _ _ (vp_in_nI hz4 (by decide)) ?_
          have rx : RCx 9 p (putc (16 * z + k) true gh.1) M2 := by
            unfold RCx at r1 ⊢
            rw [q2 10 (by decide) (by decide) (by decide) (by decide), q2 11 (by decide) (by decide) (by decide) (by decide), q2 12 (by decide) (by decide) (by decide) (by decide), q3 3 (by decide), q3 4 (by decide)]
            exact r1
          have ea : M2.1 12 (nI z).toNatClampNeg = nI (gSt gh.1 z - 1) := by
            rw [ez]
            have := rx.2.2.1 z hz4
            rw [show (9 + 3) = 12 from rfl] at this
            rw [this]
            show nI (if z = (16 * z + k) / 16 then gSt gh.1 z - 1 else _) = _
            rw [if_pos (by omega)]
          rw [ea]
          have ra := RC.act (gh' := (putc (16 * z + k) true gh.1, more (0, k, 0) gh.1 gh.2)) (M' := M2) hc (fun q hq => by rw [q2 q (by omega) (by omega) (by omega) (by omega), r2 q (by omega) (by omega) (by omega)]) (by rw [q4, r4]) (RCg_iff.mpr ⟨rx, q1⟩)
          exact hQ _ ra.1 ra.2
      · refine sg_M_lays_37_0 M1 _ _ _ (fun c => absurd c ei) (fun _ _ => ?_) (fun _ c => absurd c (e' M1 hm1))
        rw [en']
        refine wx_cellsOf hp hm1.2.1 hz4 hk ?_
        have ha := ath_ly hp hz4 hk hl
        rw [if_pos ha, acc_sI hp hz4 hk ha]
        refine sg_M_lays_37_34 M1 _ _ _ _ _ bnd (fun c => ?_) (fun _ c => absurd c (inS_ne hz4 hk)) (fun _ _ => ?_)
        · rw [e32, nI_clamp (by omega), hm1.stk hz4] at c
          have := (nI_is0 (by show gSt gh.1 z < _; omega)).mp c
          exact absurd hs (by show ¬ 0 < gSt gh.1 z; have : gSt gh.1 z = 0 := this; omega)
        · refine cl hm1 ?_
          refine sg_M_lays_37_65 M1 _ _ _ _ _ _ _ (fun _ => ?_) (fun c => absurd ((lays_M hp hz4 hk).mpr hl).2 c)
          refine wx_know (e := (0, k, 0)) (g := gh.1) (hs := gh.2) hm1.2.2.1 hw.2.2.1.2.2 (fun M2 r1 r2 r3 r4 => ?_)
          refine sg_M_lays_37_78 M2 _ _ _ _ _ ?_
          have e16 : (16 * nI z) + nI k = nI (16 * z + k) := by
            have : ∀ z, z < 4 → ∀ k, k < 16 → (16 * nI z) + nI k = nI (16 * z + k) := by decide +kernel
            exact this z hz4 k hk
          rw [e16]
          refine wx_putM (fun M3 s1 s2 s3 => ?_)
          refine sg_M_lays_37_96 M3 _ _ _ _ _ bnd ?_
          have b2 := r1.1
          have st3 : M3.1 46 (32 + z) = nI (gSt gh.1 z) := by
            rw [s1, if_neg (by omega)]
            have := b2.2.2.1 z hz4
            simpa using this
          have t3 : M3.1 46 36 = sI (gTd gh.1) := by
            rw [s1, if_neg (by omega)]
            have := b2.2.2.2.1
            simpa using this
          rw [e32, nI_clamp (by omega), t3, sI_or]
          have hz36 : 32 + z ≠ 36 := by omega
          have es3 : (wr M3 46 36 (sI (fun k_1 => gTd gh.1 k_1 || inS (16 * z + k) k_1))).1 46 (32 + z) - 1 = nI (gSt gh.1 z - 1) := by
            rw [upd_row, if_neg hz36, st3]
            exact nI_posS hs
          rw [es3]
          have rw3 : ∀ j, (wr (wr M3 46 36 (sI (fun k_1 => gTd gh.1 k_1 || inS (16 * z + k) k_1))) 46 (32 + z) (nI (gSt gh.1 z - 1))).1 46 j = if j = 32 + z then nI (gSt gh.1 z - 1) else if j = 36 then sI (fun k_1 => gTd gh.1 k_1 || inS (16 * z + k) k_1) else M3.1 46 j := fun j => by rw [upd_row, upd_row]
          have ea := rw3 (32 + z)
          rw [if_pos rfl] at ea
          rw [ea]
          have ra := RM.act (gh' := (putc (16 * z + k) true gh.1, more (0, k, 0) gh.1 gh.2)) (M' := wr (wr M3 46 36 (sI (fun k_1 => gTd gh.1 k_1 || inS (16 * z + k) k_1))) 46 (32 + z) (nI (gSt gh.1 z - 1))) hm1 (fun q hq => by rw [wr_ne _ hq, wr_ne _ hq, s2 q hq, r3 q hq]) (fun j hj => by rw [rw3, if_neg (by omega), if_neg (by omega), s1, if_neg (by omega), r2 j (by omega)]) (by show M3.2 = _; rw [s3, r4]) ?_
          · exact hQ _ ra.1 ra.2
          · refine RMg.hs r1 (blk_put (t := true) hz4 hk hs b2 (fun j hj => ?_) (fun j hj => ?_) (fun y hy => ?_) ?_ ?_) (fun j hj => ?_)
            · rw [rw3, if_neg (by omega), if_neg (by omega), s1, if_neg (by omega)]
            · rw [rw3, if_neg (by omega), if_neg (by omega), s1, show 16 + j - 16 = j by omega]
              by_cases hq : inS (16 * z + k) j = true
              · rw [if_pos ⟨by omega, by omega, hq⟩, if_pos hq]
              · rw [if_neg (fun q => hq q.2.2), if_neg hq]
            · rw [rw3]
              by_cases hq : y = z
              · rw [if_pos (by omega), if_pos hq, hq]
                have := b2.2.2.1 z hz4
                rw [Nat.zero_add] at this
                rw [this]
                exact (nI_posS hs).symm
              · rw [if_neg (by omega), if_neg (by omega), if_neg hq, s1, if_neg (by omega)]
            · rw [rw3, if_neg (by omega), if_pos rfl]
              exact sI_ext fun j _ => by cases inS (16 * z + k) j <;> simp
            · rw [rw3, if_neg (by omega), if_neg (by omega), s1, if_neg (by omega)]
            · rw [rw3, if_neg (by omega), if_neg (by omega), s1, if_neg (by omega)]
    · refine ⟨-2, (t, p, gh, im, sn, tr), hup, fun Q hQ => ?_, fun M1 Q hm1 hQ => ?_⟩
      · have hd := hQ M hc (FrC.refl M)
        refine sg_C_lays_0_0 M _ _ _ (fun c => absurd c es) (fun _ _ => vp_in_nI hz4 (by decide)) (fun _ _ _ => hd) (fun _ _ c => ?_) (fun _ c => absurd c e)
        rw [ec12] at c
        have hs : 0 < gSt gh.1 z := Nat.pos_of_ne_zero (fun q => c ((nI_le0 (by omega)).mpr q))
        rw [en]
        refine wx_freeCells hp hg hc.2.1 hcg ?_
        exact sg_C_lays_0_47 M _ _ _ _ _ _ _ (fun _ _ => vp_in_nI hz4 (by decide)) (fun _ _ _ _ _ => vp_in_nI hz4 (by decide)) (fun c => absurd ⟨(fits_C hz4 hk).mp c, hs⟩ hl) (fun _ => hd)
      · have hd := hQ M1 hm1 (FrM.refl M1)
        refine sg_M_lays_37_0 M1 _ _ _ (fun c => absurd c ei) (fun _ _ => ?_) (fun _ c => absurd c (e' M1 hm1))
        rw [en']
        refine wx_cellsOf hp hm1.2.1 hz4 hk ?_
        refine sg_M_lays_37_34 M1 _ _ _ _ _ bnd (fun _ => hd) (fun _ _ => hd) (fun c c2 => ?_)
        rw [e32, nI_clamp (by omega), hm1.stk hz4] at c
        have hs : 0 < gSt gh.1 z := Nat.pos_of_ne_zero (fun q => c ((nI_is0 (by show gSt gh.1 z < _; omega)).mpr q))
        have ha : ath p z k = true := by
          cases q : ath p z k with
          | true => rfl
          | false => rw [q, if_neg (by decide)] at c2; exact absurd rfl c2
        rw [if_pos ha, acc_sI hp hz4 hk ha]
        refine cl hm1 ?_
        exact sg_M_lays_37_65 M1 _ _ _ _ _ _ _ (fun c => absurd ⟨(lays_M hp hz4 hk).mp ⟨ha, c⟩, hs⟩ hl) (fun _ => hd)
  · refine ⟨-1, (t, p, gh, im, sn, tr), hup, fun Q hQ => ?_, fun M1 Q hm1 hQ => ?_⟩
    · have hd := hQ M hc (FrC.refl M)
      have bad : ¬ z_C_isSize x = 0 → ¬ z_L_has_6 M v w = 0 → False := fun c1 c2 => hb ⟨(isSize_iff x).mp c1, by
        rw [has_C hp hc.2.1] at c2
        cases q : okc p v w with
        | true => rfl
        | false => rw [q] at c2; exact absurd rfl c2⟩
      exact sg_C_lays_0_0 M _ _ _ (fun _ => hd) (fun c1 c2 => absurd (bad c1 c2) id) (fun c1 c2 _ => absurd (bad c1 c2) id) (fun c1 c2 _ => absurd (bad c1 c2) id) (fun _ _ => hd)
    · have hd := hQ M1 hm1 (FrM.refl M1)
      have bad : ¬ z_M_in x 0 3 = 0 → ¬ z_M_isCell_37 M1 v w = 0 → False := fun c1 c2 => hb ⟨(in_iff x).mp c1, by
        rw [isCell_M hp hm1.2.1] at c2
        cases q : okc p v w with
        | true => rfl
        | false => rw [q] at c2; exact absurd rfl c2⟩
      exact sg_M_lays_37_0 M1 _ _ _ (fun _ => hd) (fun c1 c2 => absurd (bad c1 c2) id) (fun _ _ => hd)
