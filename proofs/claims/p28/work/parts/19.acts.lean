/-! ===== day, raises ===== -/
theorem RC.act {t : List Nat} {p : Pl} {gh gh' : Gh} {im : Option Gh × Option Gh} {sn : List Nat} {tr : Int64} {M M' : Mem} (h : RC (t, p, gh, im, sn, tr) M) (hf : ∀ q, q < 9 ∨ 16 ≤ q → M'.1 q = M.1 q) (h2 : M'.2 = M.2) (hg : RCg 9 p gh' M') : RC (t, p, gh', im, sn, tr) M' ∧ FrC M M' := by
  obtain ⟨g1, g2, g3, g4, g5, g6⟩ := h
  refine ⟨⟨?_, ?_, hg, ?_, ?_, by rw [h2]; exact g6⟩, fun q hq => hf q (by omega), by rw [h2]⟩
  · unfold RCt at g1 ⊢; rw [hf 1 (by decide), hf 2 (by decide)]; exact g1
  · unfold RCp at g2 ⊢; rw [hf 6 (by decide)]; exact g2
  · have eg : ∀ b gh, 16 ≤ b → RCg b p gh M → RCg b p gh M' := by
      intro b gh hb h
      unfold RCg at h ⊢
      rw [hf b (by omega), hf (b + 1) (by omega), hf (b + 2) (by omega), hf (b + 3) (by omega), hf (b + 4) (by omega), hf (b + 5) (by omega), hf (b + 6) (by omega)]
      exact h
    exact ⟨by rw [hf 0 (by decide)]; exact g4.1, fun gh e => eg 16 gh (by decide) (g4.2.1 gh e), fun gh e => eg 23 gh (by decide) (g4.2.2 gh e)⟩
  · unfold RCs at g5 ⊢; rw [hf 0 (by decide)]; exact g5
theorem chn_take {B : Nat} {p : Pl} : ∀ (n : Nat) (hs : Hs) (g : Gd), chn B p g hs → chn B p g (hs.take n)
  | 0, _, _, _ => trivial
  | _ + 1, [], _, _ => trivial
  | n + 1, (_, s) :: t, _, h => ⟨h.1, h.2.1, h.2.2.1, chn_take n t s h.2.2.2⟩
theorem wfh_more {B B' : Nat} {p : Pl} {g g' : Gd} {hs : Hs} {e : En} (hB : B ≤ B') (h : WfH B p (g, hs)) (hg : WfG B' p g') (he : eOk p e g') (hu : g = und e g') : WfH B' p (g', more e g hs) := by
  refine ⟨hg, ?_, ?_⟩
  · exact ⟨he, hu, h.1.up hB, chn_take 9 _ _ (chn.up hB _ _ h.2.1)⟩
  · have := more_len (e := e) (g := g) h.2.2
    show (more e g hs).length ≤ 10
    rw [this]
    exact Nat.min_le_right _ _
theorem WfS.act {B B' : Nat} {t : List Nat} {p : Pl} {gh gh' : Gh} {im : Option Gh × Option Gh} {sn : List Nat} {tr : Int64} (hB : B ≤ B') (h : WfS B (t, p, gh, im, sn, tr)) (hg : WfH B' p gh') : WfS B' (t, p, gh', im, sn, tr) := by
  have h' := h.up hB
  exact ⟨h'.1, h'.2.1, hg, h'.2.2.2⟩
/-! a day -/
def dayB (g : Gd) : Nat := sN 16 (fun u => (szAt g u).isSome && gTd g u)
def dayG (g : Gd) : Gd := (gHt g, gSl g, gSt g, fun _ => false, gDy g + 1)
theorem szAt_dayG (g : Gd) (u : Nat) : szAt (dayG g) u = szAt g u := rfl
theorem day_ok {B : Nat} {p : Pl} {g : Gd} (hg : WfG B p g) (hd : gDy g < 99) : WfG B p (dayG g) ∧ eOk p (3, 0, dayB g) (dayG g) ∧ g = und (3, 0, dayB g) (dayG g) := by
  refine ⟨⟨hg.1, hg.2.1, fun k h => (by cases h), fun _ _ _ => rfl, by show gDy g + 1 ≤ 99; omega, hg.2.2.2.2.2⟩, ?_, ?_⟩
  · refine ⟨rfl, sN_lt 16 _, Nat.succ_pos _, fun _ => rfl, fun u hu h => ?_⟩
    have h' : (dayB g).testBit u = true := h
    unfold dayB at h'
    rw [sN_tb] at h'
    simp only [Bool.and_eq_true] at h'
    exact Option.isSome_iff_exists.mp h'.2.1
  · obtain ⟨h, sl, st, td, dy⟩ := g
    have e : td = fun k => match sl k with | some c => (dayB (h, sl, st, td, dy)).testBit (c % 16) | none => false := by
      funext k
      cases hs : sl k with
      | none => exact td_none hg hs
      | some c =>
        show td k = (dayB (h, sl, st, td, dy)).testBit (c % 16)
        unfold dayB
        rw [sN_tb, (szAt_of hg hs).1]
        have := hg.2.2.2.1 k c hs
        rw [show td k = td (c % 16) from this]
        simp [show c % 16 < 16 by omega]
        rfl
    show (h, sl, st, td, dy) = (h, sl, st, fun k => match sl k with | some c => (dayB (h, sl, st, td, dy)).testBit (c % 16) | none => false, dy + 1 - 1)
    rw [← e]
    rfl
theorem nI_dy {n : Nat} (h : n ≤ 99) : nI n = 99 ↔ n = 99 := nI_eq (b := 99) (by omega) (by decide)
/-! raised -/
def rsG (k h : Nat) (g : Gd) : Gd := (fun j => if j = k then h else gHt g j, gSl g, gSt g, gTd g, gDy g)
theorem rs_ok {B : Nat} {p : Pl} {g : Gd} {k h : Nat} (hg : WfG B p g) (hk : k < 16) (ht : thr p k = true) (hh : h ≤ 9) : WfG B p (rsG k h g) ∧ eOk p (2, k, gHt g k) (rsG k h g) ∧ g = und (2, k, gHt g k) (rsG k h g) := by
  refine ⟨⟨fun j hj htj => ?_, hg.2⟩, ⟨hk, hg.1 k hk ht⟩, ?_⟩
  · show (if j = k then h else gHt g j) ≤ 9
    by_cases e : j = k
    · rw [if_pos e]; exact hh
    · rw [if_neg e]; exact hg.1 j hj htj
  · obtain ⟨a, b⟩ := g
    have e : a = fun j => if j = k then a k else (if j = k then h else a j) := by
      funext j
      by_cases e : j = k
      · rw [if_pos e, e]
      · rw [if_neg e, if_neg e]
    show (a, b) = (fun j => if j = k then a k else (if j = k then h else a j), b)
    rw [← e]
