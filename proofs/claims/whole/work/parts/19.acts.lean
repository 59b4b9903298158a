/-! ===== day, raises ===== -/
theorem RMg.tail {o : Nat} {p : Pl} {gh : Gh} {f f' : Nat → Int32} (h : RMg o p gh f) (he : ∀ j, o ≤ j → f' j = f j) : RMg o p gh f' :=
  ⟨blk_congr h.1 (fun k _ => he _ (by omega)), by rw [he _ (by omega)]; exact h.2.1, fun j e hj => blk_congr (h.2.2 j e hj) (fun k _ => he _ (by omega))⟩
theorem RC.act {t : List Nat} {p : Pl} {gh gh' : Gh} {im : Option Gh × Option Gh} {sn : List Nat} {tr : Int64} {M M' : Mem} (h : RC (t, p, gh, im, sn, tr) M) (hf : ∀ q, q < 9 ∨ 16 ≤ q → M'.1 q = M.1 q) (h2 : M'.2 = M.2) (hg : RCg 9 p gh' M') : RC (t, p, gh', im, sn, tr) M' ∧ FrC M M' := by
  obtain ⟨g1, g2, g3, g4, g5, g6⟩ := h
  refine ⟨⟨?_, ?_, hg, ?_, ?_, by rw [h2]; exact g6⟩, fun q hq => hf q (by omega), by rw [h2]⟩
  · unfold RCt at g1 ⊢; rw [hf 1 (by decide), hf 2 (by decide)]; exact g1
  · unfold RCp at g2 ⊢; rw [hf 6 (by decide)]; exact g2
  · have eg : ∀ b gh, 16 ≤ b → RCg b p gh M → RCg b p gh M' := by
      intro b gh hb h
      unfold RCg at h ⊢
      rw [hf b (by omega), hf (b + 1) (by omega), hf (b + 2) (by omega), hf (b + 3) (by omega), hf (b + 4) (by omega), hf (b + 5) (by omega), hf (b + 6) (by omega)]
      exact h
    exact ⟨by rw [hf 0 (by decide)]; exact g4.1, fun gh e => eg 16 gh (by decide) (g4.2.1 gh e), fun gh e => eg 23 gh (by decide) (g4.2.2 gh e)⟩
  · unfold RCs at g5 ⊢; rw [hf 0 (by decide)]; exact g5
theorem RM.act {t : List Nat} {p : Pl} {gh gh' : Gh} {im : Option Gh × Option Gh} {sn : List Nat} {tr : Int64} {M M' : Mem} (h : RM (t, p, gh, im, sn, tr) M) (hf : ∀ q, q ≠ 46 → M'.1 q = M.1 q) (hj : ∀ j, 419 ≤ j → M'.1 46 j = M.1 46 j) (h2 : M'.2 = M.2) (hg : RMg 0 p gh' (M'.1 46)) : RM (t, p, gh', im, sn, tr) M' ∧ FrM M M' := by
  obtain ⟨g1, g2, g3, g4, g5, g6⟩ := h
  refine ⟨⟨?_, ?_, hg, ?_, ?_, by rw [h2]; exact g6⟩, fun q hq => hf q (by omega), by rw [h2]⟩
  · unfold RMt at g1 ⊢; rw [hf 37 (by decide), hf 38 (by decide)]; exact g1
  · unfold RMp at g2 ⊢; rw [hf 39 (by decide), hf 40 (by decide), hf 41 (by decide), hf 42 (by decide), hf 43 (by decide)]; exact g2
  · exact ⟨by rw [hf 47 (by decide)]; exact g4.1, by rw [hf 47 (by decide)]; exact g4.2.1, fun gh e => (g4.2.2.1 gh e).tail hj, fun gh e => (g4.2.2.2 gh e).tail (fun j hj' => hj j (by omega))⟩
  · unfold RMs at g5 ⊢; rw [hf 37 (by decide), hf 55 (by decide)]; exact g5
theorem chn_take {B : Nat} {p : Pl} : ∀ (n : Nat) (hs : Hs) (g : Gd), chn B p g hs → chn B p g (hs.take n)
  | 0, _, _, _ => trivial
  | _ + 1, [], _, _ => trivial
  | n + 1, (_, s) :: t, _, h => ⟨h.1, h.2.1, h.2.2.1, chn_take n t s h.2.2.2⟩
theorem wfh_more {B B' : Nat} {p : Pl} {g g' : Gd} {hs : Hs} {e : En} (hB : B ≤ B') (h : WfH B p (g, hs)) (hg : WfG B' p g') (he : eOk p e g') (hu : g = und e g') : WfH B' p (g', more e g hs) := by
  refine ⟨hg, ?_, ?_⟩
  · exact ⟨he, hu, h.1.up hB, chn_take 9 _ _ (chn.up hB _ _ h.2.1)⟩
  · have := more_len (e := e) (g := g) h.2.2
    show (more e g hs).length ≤ 10
    rw [this]
    exact Nat.min_le_right _ _
theorem WfS.act {B B' : Nat} {t : List Nat} {p : Pl} {gh gh' : Gh} {im : Option Gh × Option Gh} {sn : List Nat} {tr : Int64} (hB : B ≤ B') (h : WfS B (t, p, gh, im, sn, tr)) (hg : WfH B' p gh') : WfS B' (t, p, gh', im, sn, tr) := by
  have h' := h.up hB
  exact ⟨h'.1, h'.2.1, hg, h'.2.2.2⟩
/-! a day -/
def dayB (g : Gd) : Nat := sN 16 (fun u => (szAt g u).isSome && gTd g u)
def dayG (g : Gd) : Gd := (gHt g, gSl g, gSt g, fun _ => false, gDy g + 1)
theorem szAt_dayG (g : Gd) (u : Nat) : szAt (dayG g) u = szAt g u := rfl
theorem day_ok {B : Nat} {p : Pl} {g : Gd} (hg : WfG B p g) (hd : gDy g < 99) : WfG B p (dayG g) ∧ eOk p (3, 0, dayB g) (dayG g) ∧ g = und (3, 0, dayB g) (dayG g) := by
  refine ⟨⟨hg.1, hg.2.1, fun k h => (by cases h), fun _ _ _ => rfl, by show gDy g + 1 ≤ 99; omega, hg.2.2.2.2.2⟩, ?_, ?_⟩
  · refine ⟨rfl, sN_lt 16 _, Nat.succ_pos _, fun _ => rfl, fun u hu h => ?_⟩
    have h' : (dayB g).testBit u = true := h
    unfold dayB at h'
    rw [sN_tb] at h'
    simp only [Bool.and_eq_true] at h'
    exact Option.isSome_iff_exists.mp h'.2.1
  · obtain ⟨h, sl, st, td, dy⟩ := g
    have e : td = fun k => match sl k with | some c => (dayB (h, sl, st, td, dy)).testBit (c % 16) | none => false := by
      funext k
      cases hs : sl k with
      | none => exact td_none hg hs
      | some c =>
        show td k = (dayB (h, sl, st, td, dy)).testBit (c % 16)
        unfold dayB
        rw [sN_tb, (szAt_of hg hs).1]
        have := hg.2.2.2.1 k c hs
        rw [show td k = td (c % 16) from this]
        simp [show c % 16 < 16 by omega]
        rfl
    show (h, sl, st, td, dy) = (h, sl, st, fun k => match sl k with | some c => (dayB (h, sl, st, td, dy)).testBit (c % 16) | none => false, dy + 1 - 1)
    rw [← e]
    rfl
theorem nI_dy {n : Nat} (h : n ≤ 99) : nI n = 99 ↔ n = 99 := nI_eq (b := 99) (by omega) (by decide)
theorem a_day : Agr Inv mi_C_day mi_M_day 3 2 [] := by
  refine agr_of (fun i s M hw hc hm => ?_)
  obtain ⟨t, p, gh, im, sn, tr⟩ := s
  have hg : WfG (20 + i) p gh.1 := hw.2.2.1.1
  have hdy : gDy gh.1 ≤ 99 := hg.2.2.2.2.1
  have hcg : RCg 9 p gh M := hc.2.2.1
  have ed : M.1 9 4 = nI (gDy gh.1) := hcg.2.2.2.2.1
  by_cases hd : gDy gh.1 = 99
  · refine ⟨-2, (t, p, gh, im, sn, tr), hw.up (by omega), fun Q hQ => ?_, fun M1 Q hm1 hQ => ?_⟩
    · have : ¬ M.1 9 4 < 99 := by rw [ed, hd]; decide
      exact sg_C_day_0_0 M (fun c => absurd c this) (fun _ => hQ M hc (FrC.refl M))
    · have : M1.1 46 37 = 99 := by rw [hm1.dy]; exact (nI_dy hdy).mpr hd
      exact sg_M_day_37_0 M1 (fun c => absurd this c) (fun _ => hQ M1 hm1 (FrM.refl M1))
  · obtain ⟨w1, w2, w3⟩ := day_ok hg (by omega)
    have hwh : WfH (20 + (i + 1)) p (dayG gh.1, more (3, 0, dayB gh.1) gh.1 gh.2) := wfh_more (by omega) hw.2.2.1 (w1.up (by omega)) w2 w3
    refine ⟨nI (gDy gh.1 + 1), (t, p, (dayG gh.1, more (3, 0, dayB gh.1) gh.1 gh.2), im, sn, tr), WfS.act (by omega) hw hwh, fun Q hQ => ?_, fun M1 Q hm1 hQ => ?_⟩
    · have : M.1 9 4 < 99 := by rw [ed]; exact nI_lt (b := 99) (by omega) (by decide)
      refine sg_C_day_0_0 M (fun _ => ?_) (fun c => absurd this c)
      refine sg_G_passDay_9_0 M ?_
      have et : M.1 9 3 = nI (dayB gh.1) := hcg.2.2.2.1
      rw [et]
      refine wx_remember (e := (3, 0, dayB gh.1)) (g := gh.1) hcg.h hw.2.2.1.2.2 (fun M1 r1 r2 r3 r4 => ?_)
      refine sg_G_passDay_9_10 M1 ?_
      refine sg_C_day_0_22 _ ?_
      have e94 : M1.1 9 4 = nI (gDy gh.1) := by rw [r3 4 (by decide)]; exact ed
      have eans : (wr (wr M1 9 3 0) 9 4 (M1.1 9 4 + 1)).1 9 4 = nI (gDy gh.1 + 1) := by rw [e94, nI_1]; simp [wr]
      rw [eans]
      have ra := RC.act (gh' := (dayG gh.1, more (3, 0, dayB gh.1) gh.1 gh.2)) (M' := wr (wr M1 9 3 0) 9 4 (M1.1 9 4 + 1)) hc (fun q hq => by rw [wr_ne _ (by omega), wr_ne _ (by omega)]; exact r2 q (by omega) (by omega) (by omega) (by omega)) r4 ?_
      · exact hQ _ ra.1 ra.2
      · obtain ⟨k1, k2, k3, k4, k5, k6⟩ := hcg
        refine ⟨fun k hk ht => ?_, fun u hu => ?_, fun z hz => ?_, ?_, ?_, ?_, ?_⟩
        · rw [wr_ne _ (by decide), wr_ne _ (by decide), r2 10 (by decide) (by decide) (by decide) (by decide)]; exact k1 k hk ht
        · rw [wr_ne _ (by decide), wr_ne _ (by decide), r2 11 (by decide) (by decide) (by decide) (by decide)]; exact k2 u hu
        · rw [wr_ne _ (by decide), wr_ne _ (by decide), r2 12 (by decide) (by decide) (by decide) (by decide)]; exact k3 z hz
        · have : sI (fun u => (szAt (dayG gh.1) u).isSome && gTd (dayG gh.1) u) = 0 := sI_zero.mpr (fun k _ => by show (_ && false) = false; simp)
          show _ = sI (fun u => (szAt (dayG gh.1) u).isSome && gTd (dayG gh.1) u)
          rw [this]
          simp [wr]
        · rw [eans]; rfl
        · have := r1.1
          simp only [wr]
          simpa using this
        · have := r1.2
          simp only [wr]
          simpa using this
    · have : ¬ M1.1 46 37 = 99 := by rw [hm1.dy]; exact fun q => hd ((nI_dy hdy).mp q)
      refine sg_M_day_37_0 M1 (fun _ => ?_) (fun c => absurd c this)
      refine wx_know (e := (3, 0, dayB gh.1)) (g := gh.1) (hs := gh.2) hm1.2.2.1 hw.2.2.1.2.2 (fun M2 r1 r2 r3 r4 => ?_)
      refine sg_M_day_37_19 M2 ?_
      have e37 : M2.1 46 37 = nI (gDy gh.1) := by rw [r2 37 (by omega)]; exact hm1.dy
      rw [e37, nI_1]
      have ra := RM.act (gh' := (dayG gh.1, more (3, 0, dayB gh.1) gh.1 gh.2)) (M' := wr (wr M2 46 37 (nI (gDy gh.1 + 1))) 46 36 0) hm1 (fun q hq => by rw [wr_ne _ hq, wr_ne _ hq]; exact r3 q hq) (fun j hj => by rw [upd_row, if_neg (by omega), upd_row, if_neg (by omega)]; exact r2 j (by omega)) r4 ?_
      · exact hQ _ ra.1 ra.2
      · obtain ⟨⟨k1, k2, k3, k4, k5⟩, k6, k7⟩ := r1
        have off : ∀ j, j ≠ 36 → j ≠ 37 → (wr (wr M2 46 37 (nI (gDy gh.1 + 1))) 46 36 0).1 46 j = M2.1 46 j := fun j a b => by rw [upd_row, if_neg a, upd_row, if_neg b]
        refine ⟨⟨fun k hk ht => by rw [off _ (by omega) (by omega)]; exact k1 k hk ht, fun k hk => by rw [off _ (by omega) (by omega)]; exact k2 k hk, fun z hz => by rw [off _ (by omega) (by omega)]; exact k3 z hz, ?_, ?_⟩, by rw [off _ (by omega) (by omega)]; exact k6, fun j e he => blk_congr (k7 j e he) (fun k hk => off _ (by omega) (by omega))⟩
        · show _ = sI (fun _ => false)
          rw [sI_none]
          simp [wr]
        · show _ = nI (gDy gh.1 + 1)
          simp [wr]
/-! raised -/
def rsG (k h : Nat) (g : Gd) : Gd := (fun j => if j = k then h else gHt g j, gSl g, gSt g, gTd g, gDy g)
theorem rs_ok {B : Nat} {p : Pl} {g : Gd} {k h : Nat} (hg : WfG B p g) (hk : k < 16) (ht : thr p k = true) (hh : h ≤ 9) : WfG B p (rsG k h g) ∧ eOk p (2, k, gHt g k) (rsG k h g) ∧ g = und (2, k, gHt g k) (rsG k h g) := by
  refine ⟨⟨fun j hj htj => ?_, hg.2⟩, ⟨hk, hg.1 k hk ht⟩, ?_⟩
  · show (if j = k then h else gHt g j) ≤ 9
    by_cases e : j = k
    · rw [if_pos e]; exact hh
    · rw [if_neg e]; exact hg.1 j hj htj
  · obtain ⟨a, b⟩ := g
    have e : a = fun j => if j = k then a k else (if j = k then h else a j) := by
      funext j
      by_cases e : j = k
      · rw [if_pos e, e]
      · rw [if_neg e, if_neg e]
    show (a, b) = (fun j => if j = k then a k else (if j = k then h else a j), b)
    rw [← e]
theorem a_raises (x y v : Int32) : Agr Inv mi_C_raises mi_M_raises 4 3 [.int x, .int y, .int v] := by
  refine agr_of (fun i s M hw hc hm => ?_)
  obtain ⟨t, p, gh, im, sn, tr⟩ := s
  have hup := hw.up (show 20 + i ≤ 20 + (i + 1) by omega)
  have hp : WfP p := hw.2.1
  have hg : WfG (20 + i) p gh.1 := hw.2.2.1.1
  have hcg : RCg 9 p gh M := hc.2.2.1
  by_cases hb : okc p x y = true ∧ 0 ≤ v ∧ v ≤ 9
  · obtain ⟨ho, hv1, hv2⟩ := hb
    have e : ¬ z_L_has_6 M x y = 0 := by rw [has_C hp hc.2.1, ho]; decide
    have e' : ∀ M1, RM (t, p, gh, im, sn, tr) M1 → ¬ z_M_isCell_37 M1 x y = 0 := fun M1 h => by rw [isCell_M hp h.2.1, ho]; decide
    obtain ⟨k, hk, rfl, rfl, ht⟩ := okc_cell hp ho
    obtain ⟨h, hh, rfl⟩ := nI_of2 (n := 9) (by decide) (Int32.not_lt.mpr hv1) hv2
    have ein : ¬ z_M_in (nI h) 0 9 = 0 := by rw [in_bI, decide_eq_true hv1, decide_eq_true hv2]; decide
    have en : z_C_numberOf (nI (k % 4)) (nI (k / 4)) = nI k := numOf k hk
    have hold : gHt gh.1 k ≤ 9 := hg.1 k hk ht
    have ed : z_C_holds (M.1 6 4) (nI k) = bI (pD p k) := by rw [hc.2.1.2.2.2.2, holds_sI hk]
    have eh : M.1 10 (nI k).toNatClampNeg = nI (gHt gh.1 k) := by rw [nI_clamp (by omega)]; exact hcg.1 k hk ht
    by_cases hst : pD p k = true ∨ gHt gh.1 k = h
    · refine ⟨-2, (t, p, gh, im, sn, tr), hup, fun Q hQ => ?_, fun M1 Q hm1 hQ => ?_⟩
      · have hd := hQ M hc (FrC.refl M)
        refine sg_C_raises_0_0 M _ _ _ (fun c => absurd c e) (fun _ c => absurd c (Int32.not_lt.mpr hv1)) (fun _ _ _ _ => hd) (fun _ _ _ _ => by rw [en]; exact vp_in_nI hk (by decide)) (fun _ _ _ c1 c2 => ?_) (fun _ _ _ _ _ => hd) (fun _ _ c => absurd hv2 c)
        rw [en, ed, bI_0] at c1
        rw [en, eh] at c2
        rcases hst with q | q
        · rw [q] at c1; cases c1
        · exact absurd (by rw [q]) c2
      · have hd := hQ M1 hm1 (FrM.refl M1)
        refine sg_M_raises_37_0 M1 _ _ _ (fun c => absurd c (e' M1 hm1)) (fun _ _ => by rw [numOf' hk]; exact vp_in_nI (by omega) (by decide)) (fun _ _ _ => hd) (fun _ _ c1 c2 => ?_) (fun _ _ _ _ => hd) (fun _ c => absurd c ein)
        rw [numOf' hk, isDrain_M hm1.2.1 hk, bI_0] at c1
        rw [numOf' hk, nI_clamp (by omega), hm1.ht hk ht] at c2
        rcases hst with q | q
        · rw [q] at c1; cases c1
        · exact absurd (congrArg nI q) c2
    · have hnd : pD p k = false := by
        cases hq : pD p k with
        | false => rfl
        | true => exact absurd (Or.inl hq) hst
      have hne : gHt gh.1 k ≠ h := fun q => hst (Or.inr q)
      obtain ⟨w1, w2, w3⟩ := rs_ok hg hk ht hh
      have hwh : WfH (20 + (i + 1)) p (rsG k h gh.1, more (2, k, gHt gh.1 k) gh.1 gh.2) := wfh_more (by omega) hw.2.2.1 (w1.up (by omega)) w2 w3
      refine ⟨nI (gHt gh.1 k), (t, p, (rsG k h gh.1, more (2, k, gHt gh.1 k) gh.1 gh.2), im, sn, tr), WfS.act (by omega) hw hwh, fun Q hQ => ?_, fun M1 Q hm1 hQ => ?_⟩
      · refine sg_C_raises_0_0 M _ _ _ (fun c => absurd c e) (fun _ c => absurd c (Int32.not_lt.mpr hv1)) (fun _ _ _ c => ?_) (fun _ _ _ _ => by rw [en]; exact vp_in_nI hk (by decide)) (fun _ _ _ c1 c2 => ?_) (fun _ _ _ _ c => ?_) (fun _ _ c => absurd hv2 c)
        · rw [en, ed, hnd] at c; exact absurd rfl c
        · rw [en]
          refine sg_G_raise_9_0 M _ _ (vp_in_nI hk (by decide)) ?_
          rw [eh, nI_clamp (by omega)]
          refine wx_remember (e := (2, k, gHt gh.1 k)) (g := gh.1) (hs := gh.2) (M := wr M 10 k (nI h)) ?_ hw.2.2.1.2.2 (fun M1 r1 r2 r3 r4 => ?_)
          · have := hcg.h
            unfold RCh at this ⊢
            simpa [wr] using this
          refine sg_G_raise_9_19 M1 _ _ _ ?_
          refine sg_C_raises_0_72 M1 _ _ _ _ _ ?_
          have ra := RC.act (gh' := (rsG k h gh.1, more (2, k, gHt gh.1 k) gh.1 gh.2)) (M' := M1) hc (fun q hq => by rw [r2 q (by omega) (by omega) (by omega) (by omega), wr_ne _ (by omega)]) r4 ?_
          · exact hQ _ ra.1 ra.2
          · obtain ⟨k1, k2, k3, k4, k5, k6⟩ := hcg
            refine ⟨fun j hj htj => ?_, fun u hu => ?_, fun z hz => ?_, ?_, ?_, r1.1, r1.2⟩
            · rw [r2 10 (by decide) (by decide) (by decide) (by decide), upd_row]
              show _ = nI (if j = k then h else gHt gh.1 j)
              by_cases q : j = k
              · rw [if_pos q, if_pos q]
              · rw [if_neg q, if_neg q]; exact k1 j hj htj
            · rw [r2 11 (by decide) (by decide) (by decide) (by decide), wr_ne _ (by decide)]; exact k2 u hu
            · rw [r2 12 (by decide) (by decide) (by decide) (by decide), wr_ne _ (by decide)]; exact k3 z hz
            · rw [r3 3 (by decide), wr_ne _ (by decide)]; exact k4
            · rw [r3 4 (by decide), wr_ne _ (by decide)]; exact k5
        · rw [en, eh] at c
          exact absurd ((nI_eq (a := gHt gh.1 k) (b := h) (by omega) (by omega)).mp c) hne
      · refine sg_M_raises_37_0 M1 _ _ _ (fun c => absurd c (e' M1 hm1)) (fun _ _ => by rw [numOf' hk]; exact vp_in_nI (by omega) (by decide)) (fun _ _ c => ?_) (fun _ _ _ _ => ?_) (fun _ _ _ c => ?_) (fun _ c => absurd c ein)
        · rw [numOf' hk, isDrain_M hm1.2.1 hk, hnd] at c; exact absurd rfl c
        · rw [numOf' hk, nI_clamp (by omega), hm1.ht hk ht]
          refine wx_know (e := (2, k, gHt gh.1 k)) (g := gh.1) (hs := gh.2) hm1.2.2.1 hw.2.2.1.2.2 (fun M2 r1 r2 r3 r4 => ?_)
          refine sg_M_raises_37_59 M2 _ _ _ _ _ (vp_in_nI (by omega) (by decide)) ?_
          rw [nI_clamp (by omega)]
          have ra := RM.act (gh' := (rsG k h gh.1, more (2, k, gHt gh.1 k) gh.1 gh.2)) (M' := wr M2 46 k (nI h)) hm1 (fun q hq => by rw [wr_ne _ hq]; exact r3 q hq) (fun j hj => by rw [upd_row, if_neg (by omega)]; exact r2 j (by omega)) r4 ?_
          · exact hQ _ ra.1 ra.2
          · obtain ⟨⟨k1, k2, k3, k4, k5⟩, k6, k7⟩ := r1
            have off : ∀ j, j ≠ k → (wr M2 46 k (nI h)).1 46 j = M2.1 46 j := fun j a => by rw [upd_row, if_neg a]
            refine ⟨⟨fun j hj htj => ?_, fun j hj => by rw [off _ (by omega)]; exact k2 j hj, fun z hz => by rw [off _ (by omega)]; exact k3 z hz, by rw [off _ (by omega)]; exact k4, by rw [off _ (by omega)]; exact k5⟩, by rw [off _ (by omega)]; exact k6, fun j e he => blk_congr (k7 j e he) (fun q hq => off _ (by omega))⟩
            rw [upd_row]
            show _ = nI (if j = k then h else gHt gh.1 j)
            by_cases q : j = k
            · rw [if_pos (by omega), if_pos q]
            · rw [if_neg (by omega), if_neg q]; exact k1 j hj htj
        · rw [numOf' hk, nI_clamp (by omega), hm1.ht hk ht] at c
          exact absurd ((nI_eq (a := gHt gh.1 k) (b := h) (by omega) (by omega)).mp c) hne
  · refine ⟨-1, (t, p, gh, im, sn, tr), hup, fun Q hQ => ?_, fun M1 Q hm1 hQ => ?_⟩
    · have hd := hQ M hc (FrC.refl M)
      have bad : ¬ z_L_has_6 M x y = 0 → ¬ v < 0 → v ≤ 9 → False := fun c1 c2 c3 => hb ⟨by
        rw [has_C hp hc.2.1] at c1
        cases q : okc p x y with
        | true => rfl
        | false => rw [q] at c1; exact absurd rfl c1, Int32.not_lt.mp c2, c3⟩
      exact sg_C_raises_0_0 M _ _ _ (fun _ => hd) (fun _ _ => hd) (fun c1 c2 c3 _ => absurd (bad c1 c2 c3) id) (fun c1 c2 c3 _ => absurd (bad c1 c2 c3) id) (fun c1 c2 c3 _ _ => absurd (bad c1 c2 c3) id) (fun c1 c2 c3 _ _ => absurd (bad c1 c2 c3) id) (fun _ _ _ => hd)
    · have hd := hQ M1 hm1 (FrM.refl M1)
      have bad : ¬ z_M_isCell_37 M1 x y = 0 → ¬ z_M_in v 0 9 = 0 → False := fun c1 c2 => hb ⟨by
        rw [isCell_M hp hm1.2.1] at c1
        cases q : okc p x y with
        | true => rfl
        | false => rw [q] at c1; exact absurd rfl c1, by
        rw [in_bI, bI_0] at c2
        simpa using c2⟩
      exact sg_M_raises_37_0 M1 _ _ _ (fun _ => hd) (fun c1 c2 => absurd (bad c1 c2) id) (fun c1 c2 _ => absurd (bad c1 c2) id) (fun c1 c2 _ _ => absurd (bad c1 c2) id) (fun c1 c2 _ _ => absurd (bad c1 c2) id) (fun _ _ => hd)
