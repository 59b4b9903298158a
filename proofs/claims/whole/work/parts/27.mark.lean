/-! ===== neighbours; mark ===== -/
theorem nb_lt {k w j : Nat} (hk : k < 16) (h : nb k w = some j) : j < 16 := by
  unfold nb at h
  split at h
  · split at h <;> cases h; omega
  · split at h
    · split at h <;> cases h; omega
    · split at h
      · split at h <;> cases h; omega
      · split at h <;> cases h; omega
theorem okc_m1y {p : Pl} (x : Int32) : okc p x (-1) = false := by
  unfold okc
  rw [show (-1 : Int32).toInt = -1 from rfl]
  simp
theorem okc_m1x {p : Pl} (y : Int32) : okc p (-1) y = false := by
  unfold okc
  rw [show (-1 : Int32).toInt = -1 from rfl]
  simp
theorem okc_4x {p : Pl} (hp : WfP p) (y : Int32) : okc p (nI 4) y = false := by
  have := hp.1
  unfold okc
  rw [nI_toInt (by decide), decide_eq_false (p := ((4 : Nat) : Int) < (pW p : Int)) (by omega)]
  simp
theorem okc_4y {p : Pl} (hp : WfP p) (x : Int32) : okc p x (nI 4) = false := by
  have := hp.2.1
  unfold okc
  rw [nI_toInt (by decide), decide_eq_false (p := ((4 : Nat) : Int) < (pR p : Int)) (by omega)]
  simp
theorem b_up : ∀ k, k < 16 → 4 ≤ k → (rem (nI k) 4 + 0 = nI ((k - 4) % 4) ∧ nI k / 4 + (-1) = nI ((k - 4) / 4)) := by decide +kernel
theorem b_up' : ∀ k, k < 16 → ¬ 4 ≤ k → nI k / 4 + (-1) = -1 := by decide +kernel
theorem b_rt : ∀ k, k < 16 → k % 4 ≠ 3 → (rem (nI k) 4 + 1 = nI ((k + 1) % 4) ∧ nI k / 4 + 0 = nI ((k + 1) / 4)) := by decide +kernel
theorem b_rt' : ∀ k, k < 16 → ¬ k % 4 ≠ 3 → rem (nI k) 4 + 1 = nI 4 := by decide +kernel
theorem b_dn : ∀ k, k < 16 → k < 12 → (rem (nI k) 4 + 0 = nI ((k + 4) % 4) ∧ nI k / 4 + 1 = nI ((k + 4) / 4)) := by decide +kernel
theorem b_dn' : ∀ k, k < 16 → ¬ k < 12 → nI k / 4 + 1 = nI 4 := by decide +kernel
theorem b_lf : ∀ k, k < 16 → k % 4 ≠ 0 → (rem (nI k) 4 + (-1) = nI ((k - 1) % 4) ∧ nI k / 4 + 0 = nI ((k - 1) / 4)) := by decide +kernel
theorem b_lf' : ∀ k, k < 16 → ¬ k % 4 ≠ 0 → rem (nI k) 4 + (-1) = -1 := by decide +kernel
theorem b_cell {p : Pl} {M : Mem} (hp : WfP p) (hm : RMp p M) {j : Nat} (hj : j < 16) : (if z_M_isCell_37 M (nI (j % 4)) (nI (j / 4)) = 0 then (-9 : Int32) else (4 * nI (j / 4)) + nI (j % 4)) = eSl (if thr p j = true then some j else none) := by
  rw [isCell_M hp hm, okc_thr hj, numOf' hj]
  cases thr p j with
  | true => rw [if_neg (by decide), if_pos rfl]; rfl
  | false => rw [if_pos (by decide), if_neg (by decide)]; rfl
theorem b_none {p : Pl} {M : Mem} {x y : Int32} (hp : WfP p) (hm : RMp p M) (h : okc p x y = false) : (if z_M_isCell_37 M x y = 0 then (-9 : Int32) else (4 * y) + x) = eSl none := by
  rw [isCell_M hp hm, h, if_pos (by decide)]
  rfl
theorem beside_M {p : Pl} {M : Mem} (hp : WfP p) (hm : RMp p M) {k w : Nat} (hk : k < 16) (hw : w < 4) : z_M_beside_37 M (nI k) (nI w) = eSl (nbT p k w) := by
  unfold z_M_beside_37
  have h4 : w = 0 ∨ w = 1 ∨ w = 2 ∨ w = 3 := by omega
  rcases h4 with rfl | rfl | rfl | rfl
  · rw [if_neg (by decide), if_neg (by decide), if_neg (by decide), if_pos (by decide)]
    unfold nbT
    rw [show nb k 0 = if 4 ≤ k then some (k - 4) else none from rfl]
    by_cases h : 4 ≤ k
    · rw [if_pos h, (b_up k hk h).1, (b_up k hk h).2]
      exact b_cell hp hm (by omega)
    · rw [if_neg h]
      exact b_none hp hm (by rw [b_up' k hk h]; exact okc_m1y _)
  · rw [if_pos (by decide), if_neg (by decide), if_neg (by decide)]
    unfold nbT
    rw [show nb k 1 = if k % 4 ≠ 3 then some (k + 1) else none from rfl]
    by_cases h : k % 4 ≠ 3
    · rw [if_pos h, (b_rt k hk h).1, (b_rt k hk h).2]
      exact b_cell hp hm (by omega)
    · rw [if_neg h]
      exact b_none hp hm (by rw [b_rt' k hk h]; exact okc_4x hp _)
  · rw [if_neg (by decide), if_neg (by decide), if_pos (by decide)]
    unfold nbT
    rw [show nb k 2 = if k < 12 then some (k + 4) else none from rfl]
    by_cases h : k < 12
    · rw [if_pos h, (b_dn k hk h).1, (b_dn k hk h).2]
      exact b_cell hp hm (by omega)
    · rw [if_neg h]
      exact b_none hp hm (by rw [b_dn' k hk h]; exact okc_4y hp _)
  · rw [if_neg (by decide), if_pos (by decide), if_neg (by decide), if_neg (by decide)]
    unfold nbT
    rw [show nb k 3 = if k % 4 ≠ 0 then some (k - 1) else none from rfl]
    by_cases h : k % 4 ≠ 0
    · rw [if_pos h, (b_lf k hk h).1, (b_lf k hk h).2]
      exact b_cell hp hm (by omega)
    · rw [if_neg h]
      exact b_none hp hm (by rw [b_lf' k hk h]; exact okc_m1x _)
theorem nbT_some {p : Pl} {k w j : Nat} (h : nbT p k w = some j) : nb k w = some j ∧ thr p j = true := by
  unfold nbT at h
  cases hn : nb k w with
  | none => rw [hn] at h; cases h
  | some i =>
    rw [hn] at h
    dsimp only at h
    by_cases ht : thr p i = true
    · rw [if_pos ht] at h; cases h; exact ⟨rfl, ht⟩
    · rw [if_neg ht] at h; cases h
theorem nbT_lt {p : Pl} {k w j : Nat} (hk : k < 16) (h : nbT p k w = some j) : j < 16 := nb_lt hk (nbT_some h).1
theorem cW_le (p : Pl) (k : Nat) : ∀ n, cW p k n ≤ n
  | 0 => Nat.le_refl 0
  | n + 1 => by
    have := cW_le p k n
    show cW p k n + (if (nbT p k n).isSome = true then 1 else 0) ≤ n + 1
    split <;> omega
theorem cnt_p {p : Pl} (hp : WfP p) {k : Nat} (hk : k < 16) : z_I_bitCount (sI (fun j => bes (fun i => decide (i = k)) j && thr p j)) = nI (cW p k 4) := by
  have h1 := hp.1
  have h2 := hp.2.1
  obtain ⟨W, R, L, D, O⟩ := p
  have h1 : W ≤ 4 := h1
  have h2 : R ≤ 4 := h2
  exact cnt_C W (by omega) R (by omega) k hk
theorem RC.trc {t : List Nat} {p : Pl} {gh : Gh} {im : Option Gh × Option Gh} {sn : List Nat} {tr : Int64} {M : Mem} (h : RC (t, p, gh, im, sn, tr) M) (tr' : Int64) : RC (t, p, gh, im, sn, tr') (wrL M 0 tr') ∧ FrC M (wrL M 0 tr') := by
  obtain ⟨g1, g2, g3, g4, g5, g6⟩ := h
  exact ⟨⟨g1, g2, g3, g4, g5, by simp [wrL]⟩, fun q hq => rfl, by simp [wrL]⟩
theorem RM.trc {t : List Nat} {p : Pl} {gh : Gh} {im : Option Gh × Option Gh} {sn : List Nat} {tr : Int64} {M : Mem} (h : RM (t, p, gh, im, sn, tr) M) (tr' : Int64) : RM (t, p, gh, im, sn, tr') (wrL M 37 tr') ∧ FrM M (wrL M 37 tr') := by
  obtain ⟨g1, g2, g3, g4, g5, g6⟩ := h
  exact ⟨⟨g1, g2, g3, g4, g5, by simp [wrL]⟩, fun q hq => rfl, by simp [wrL]⟩
/-- the class's ways of marking a cell -/
theorem wx_markCell {k : Nat} (hk : k < 16) {M : Mem} {Q : Option Value → Mem → Prop} (hQ : Q (some (.int (M.1 10 k))) (wrL M 0 (M.2 0 + 1))) : WX mi_C_markCell 3 Q 0 [some (.ref 0), some (.int (nI k))] [] M := by
  refine sg_C_markCell_0_0 M _ (vp_in_nI hk (by decide)) ?_
  rw [nI_clamp (by omega)]
  exact hQ
theorem wrLL (M : Mem) (q : Nat) (a b : Int64) : wrL (wrL M q a) q b = wrL M q b := by
  unfold wrL
  congr 1
  funext r
  by_cases h : r = q
  · simp [h]
  · simp [h]
theorem wrL_at (M : Mem) (q : Nat) (a : Int64) : (wrL M q a).2 q = a := by simp [wrL]
theorem wx_markTrue {p : Pl} {k : Nat} (hp : WfP p) (hk : k < 16) {M : Mem} {Q : Option Value → Mem → Prop} (hm : RCp p M) (hQ : Q (some (.int (M.1 10 k + nI (cW p k 4)))) (wrL M 0 (M.2 0 + 11))) : WX mi_C_markTrue 4 Q 0 [some (.ref 0), some (.int (nI k))] [] M := by
  refine sg_C_markTrue_0_0 M _ ?_
  refine wx_markCell hk ?_
  refine sg_C_markTrue_0_17 _ _ _ ?_
  refine wx_cells hp hm ?_
  refine sg_C_markTrue_0_30 _ _ _ _ _ ?_
  rw [sI_one hk, beside_sI, sI_and, cnt_p hp hk, wrLL, wrL_at, Int64.add_assoc]
  exact hQ
theorem wx_markLow {k : Nat} (hk : k < 16) {M : Mem} {Q : Option Value → Mem → Prop} (hQ : Q (some (.int (M.1 10 k - nI (k % 4)))) (wrL M 0 (M.2 0 + 101))) : WX mi_C_markLow 4 Q 0 [some (.ref 0), some (.int (nI k))] [] M := by
  refine sg_C_markLow_0_0 M _ ?_
  refine wx_markCell hk ?_
  refine sg_C_markLow_0_17 _ _ _ ?_
  rw [remOf k hk, wrLL, wrL_at, Int64.add_assoc]
  exact hQ
/-- what mark answers, and what it adds -/
def mkA (p : Pl) (g : Gd) (k : Nat) (x : Int32) : Int32 := if x = 0 then nI (gHt g k) else if x = 1 then nI (gHt g k) + nI (cW p k 4) else if x = 2 then nI (gHt g k) - nI (k % 4) else if x = 3 then (nI (gHt g k) + nI (cW p k 4)) * 2 else if x = 4 then (nI (gHt g k) - nI (k % 4)) + nI (k / 4) else nI (gHt g k) + nI (gDy g)
def mkT (x : Int32) : Int64 := if x = 0 then 1 else if x = 1 then 11 else if x = 2 then 101 else if x = 3 then 1011 else if x = 4 then 10101 else 100001
theorem six_of {x : Int32} (h : 0 ≤ x ∧ x ≤ 5) : x = 0 ∨ x = 1 ∨ x = 2 ∨ x = 3 ∨ x = 4 ∨ x = 5 := by
  obtain ⟨j, hj, rfl⟩ := nI_of2 (n := 5) (by decide) (Int32.not_lt.mpr h.1) h.2
  have : j = 0 ∨ j = 1 ∨ j = 2 ∨ j = 3 ∨ j = 4 ∨ j = 5 := by omega
  rcases this with rfl | rfl | rfl | rfl | rfl | rfl <;> decide
theorem a_mark (x v w : Int32) : Agr Inv mi_C_mark mi_M_mark 6 4 [.int x, .int v, .int w] := by
  refine agr_of (fun i s M hw hc hm => ?_)
  obtain ⟨t, p, gh, im, sn, tr⟩ := s
  have hup := hw.up (show 20 + i ≤ 20 + (i + 1) by omega)
  have hp : WfP p := hw.2.1
  have hcg : RCg 9 p gh M := hc.2.2.1
  have hin : ¬ z_M_in x 0 5 = 0 ↔ (0 ≤ x ∧ x ≤ 5) := by rw [in_bI, bI_0]; simp
  by_cases hb : (0 ≤ x ∧ x ≤ 5) ∧ okc p v w = true
  · obtain ⟨hx, ho⟩ := hb
    have e : ¬ z_L_has_6 M v w = 0 := by rw [has_C hp hc.2.1, ho]; decide
    have e' : ∀ M1, RM (t, p, gh, im, sn, tr) M1 → ¬ z_M_isCell_37 M1 v w = 0 := fun M1 h => by rw [isCell_M hp h.2.1, ho]; decide
    obtain ⟨k, hk, rfl, rfl, ht⟩ := okc_cell hp ho
    have en : z_C_numberOf (nI (k % 4)) (nI (k / 4)) = nI k := numOf k hk
    have en' : (4 * nI (k / 4)) + nI (k % 4) = nI k := numOf' hk
    have eh : M.1 10 k = nI (gHt gh.1 k) := hcg.1 k hk ht
    have ed : M.1 9 4 = nI (gDy gh.1) := hcg.2.2.2.2.1
    refine ⟨mkA p gh.1 k x, (t, p, gh, im, sn, tr + mkT x), ⟨hup.1, hup.2.1, hup.2.2.1, hup.2.2.2⟩, fun Q hQ => ?_, fun M1 Q hm1 hQ => ?_⟩
    · have et : M.2 0 = tr := hc.2.2.2.2.2
      have fin := hQ _ (hc.trc (tr + mkT x)).1 (hc.trc (tr + mkT x)).2
      refine sg_C_mark_0_0 M _ _ _ (fun _ c => ?_) (fun _ c => ?_) (fun _ c => ?_) (fun _ c => ?_) (fun _ c => ?_) (fun _ c => ?_) (fun _ c0 c1 c2 c3 c4 c5 => ?_) (fun c => absurd c e)
      · rw [en]
        refine wx_markCell hk (sg_C_mark_0_66 _ _ _ _ _ _ ?_)
        subst c
        rw [et, eh]
        exact fin
      · rw [en]
        refine wx_markTrue hp hk hc.2.1 (sg_C_mark_0_73 _ _ _ _ _ _ ?_)
        subst c
        rw [et, eh]
        exact fin
      · rw [en]
        refine wx_markLow hk (sg_C_mark_0_80 _ _ _ _ _ _ ?_)
        subst c
        rw [et, eh]
        exact fin
      · rw [en]
        refine sg_C_markRocking_0_0 _ _ ?_
        refine wx_markTrue hp hk hc.2.1 (sg_C_markRocking_0_17 _ _ _ (sg_C_mark_0_87 _ _ _ _ _ _ ?_))
        subst c
        rw [wrLL, wrL_at, et, Int64.add_assoc]
        show Q (some (.int ((M.1 10 k + nI (cW p k 4)) * 2))) _
        rw [eh]
        exact fin
      · rw [en]
        refine sg_C_markCut_0_0 _ _ ?_
        refine wx_markLow hk (sg_C_markCut_0_17 _ _ _ (sg_C_mark_0_94 _ _ _ _ _ _ ?_))
        subst c
        rw [wrLL, wrL_at, et, Int64.add_assoc, divOf k hk]
        show Q (some (.int ((M.1 10 k - nI (k % 4)) + nI (k / 4)))) _
        rw [eh]
        exact fin
      · rw [en]
        refine sg_C_markWet_0_0 _ _ ?_
        refine wx_markCell hk (sg_C_markWet_0_17 _ _ _ (sg_C_mark_0_101 _ _ _ _ _ _ ?_))
        subst c
        rw [wrLL, wrL_at, et, Int64.add_assoc]
        show Q (some (.int (M.1 10 k + M.1 9 4))) _
        rw [eh, ed]
        exact fin
      · rcases six_of hx with h | h | h | h | h | h
        · exact absurd h c0
        · exact absurd h c1
        · exact absurd h c2
        · exact absurd h c3
        · exact absurd h c4
        · exact absurd h c5
    · have et : M1.2 37 = tr := hm1.2.2.2.2.2
      have fin := hQ _ (hm1.trc (tr + mkT x)).1 (hm1.trc (tr + mkT x)).2
      refine sg_M_mark_37_0 M1 _ _ _ (fun c => absurd c (hin.mpr hx)) (fun _ _ => by rw [en']; exact vp_in_nI (by omega) (by decide)) (fun _ _ => ?_) (fun _ c => absurd c (e' M1 hm1))
      rw [en', nI_clamp (by omega), show M1.1 46 k = nI (gHt gh.1 k) from hm1.ht hk ht]
      have loop : ∀ n, n ≤ 4 → WX mi_M_mark 4 Q 40 [some (.ref 37), some (.int x), some (.int (nI (k % 4))), some (.int (nI (k / 4))), some (.int (nI (gHt gh.1 k))), some (.int (nI (gHt gh.1 k) + nI (cW p k n))), some (.int (nI n))] [] M1 := by
        refine downN 4 ?_ (fun n hn ih => ?_)
        · have g4 : (4 : Int32) ≤ nI 4 := by decide
          rw [← et] at fin
          refine sg_M_mark_37_40 M1 _ _ _ _ _ _ (fun _ c => ?_) (fun _ c => ?_) (fun _ c => ?_) (fun _ c => ?_) (fun _ c => ?_) (fun _ c0 c1 c2 c3 c4 => ?_) (fun c => absurd g4 c) (fun c => absurd g4 c)
          · subst c; exact fin
          · subst c; exact fin
          · subst c; exact fin
          · subst c; rw [Int32.mul_comm]; exact fin
          · subst c; exact fin
          · rw [show M1.1 46 37 = nI (gDy gh.1) from hm1.dy]
            unfold mkA mkT at fin
            rw [if_neg c0, if_neg c1, if_neg c2, if_neg c3, if_neg c4, if_neg c0, if_neg c1, if_neg c2, if_neg c3, if_neg c4] at fin
            exact fin
        · have eb : z_M_beside_37 M1 ((4 * nI (k / 4)) + nI (k % 4)) (nI n) = eSl (nbT p k n) := by rw [en']; exact beside_M hp hm1.2.1 hk hn
          have em9 : eSl (nbT p k n) = -9 ↔ nbT p k n = none := eSl_m9 (fun c h => by have := nbT_lt hk h; omega)
          refine sg_M_mark_37_40 M1 _ _ _ _ _ _ (fun c => absurd c (Int32.not_le.mpr (nI_lt (b := 4) hn (by decide)))) (fun c => absurd c (Int32.not_le.mpr (nI_lt (b := 4) hn (by decide)))) (fun c => absurd c (Int32.not_le.mpr (nI_lt (b := 4) hn (by decide)))) (fun c => absurd c (Int32.not_le.mpr (nI_lt (b := 4) hn (by decide)))) (fun c => absurd c (Int32.not_le.mpr (nI_lt (b := 4) hn (by decide)))) (fun c => absurd c (Int32.not_le.mpr (nI_lt (b := 4) hn (by decide)))) (fun _ c => ?_) (fun _ c => ?_)
          · rw [eb, em9] at c
            have hs : (nbT p k n).isSome = true := by cases h : nbT p k n with | none => exact absurd h c | some _ => rfl
            have := ih
            rw [show cW p k (n + 1) = cW p k n + 1 by show cW p k n + (if (nbT p k n).isSome = true then 1 else 0) = _; rw [if_pos hs], ← nI_1, ← Int32.add_assoc] at this
            rw [nI_1]
            exact this
          · rw [eb, em9] at c
            have := ih
            rw [show cW p k (n + 1) = cW p k n by show cW p k n + (if (nbT p k n).isSome = true then 1 else 0) = _; rw [c]; rfl] at this
            rw [nI_1, Int32.add_zero]
            exact this
      have h0 := loop 0 (by decide)
      rw [show nI (cW p k 0) = 0 from rfl, Int32.add_zero] at h0
      exact h0
  · refine ⟨-1000000, (t, p, gh, im, sn, tr), hup, fun Q hQ => ?_, fun M1 Q hm1 hQ => ?_⟩
    · have hd := hQ M hc (FrC.refl M)
      have bad : ¬ z_L_has_6 M v w = 0 → (0 ≤ x ∧ x ≤ 5) → False := fun c2 c1 => hb ⟨c1, by
        rw [has_C hp hc.2.1] at c2
        cases q : okc p v w with
        | true => rfl
        | false => rw [q] at c2; exact absurd rfl c2⟩
      exact sg_C_mark_0_0 M _ _ _ (fun c c' => absurd (bad c (by rw [c']; decide)) id) (fun c c' => absurd (bad c (by rw [c']; decide)) id) (fun c c' => absurd (bad c (by rw [c']; decide)) id) (fun c c' => absurd (bad c (by rw [c']; decide)) id) (fun c c' => absurd (bad c (by rw [c']; decide)) id) (fun c c' => absurd (bad c (by rw [c']; decide)) id) (fun _ _ _ _ _ _ _ => hd) (fun _ => hd)
    · have hd := hQ M1 hm1 (FrM.refl M1)
      have bad : ¬ z_M_in x 0 5 = 0 → ¬ z_M_isCell_37 M1 v w = 0 → False := fun c1 c2 => hb ⟨hin.mp c1, by
        rw [isCell_M hp hm1.2.1] at c2
        cases q : okc p v w with
        | true => rfl
        | false => rw [q] at c2; exact absurd rfl c2⟩
      exact sg_M_mark_37_0 M1 _ _ _ (fun _ => hd) (fun c1 c2 => absurd (bad c1 c2) id) (fun c1 c2 => absurd (bad c1 c2) id) (fun _ _ => hd)
