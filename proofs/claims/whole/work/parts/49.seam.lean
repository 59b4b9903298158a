/-! ===== seams: the model's ===== -/
theorem sl_thr {B : Nat} {p : Pl} {g : Gd} (hg : WfG B p g) {k c : Nat} (h : gSl g k = some c) : thr p k = true := layb_thr ((hg.2.1 k c h).2.2.2 k (hg.2.1 k c h).2.2.1).2.1
theorem prt_l {B : Nat} {p : Pl} {g : Gd} (hg : WfG B p g) {a b : Nat} (h : thr p a = false) : prt g a b = false := by
  unfold prt
  cases e : gSl g a with
  | none => rfl
  | some c => rw [sl_thr hg e] at h; cases h
theorem prt_r {B : Nat} {p : Pl} {g : Gd} (hg : WfG B p g) {a b : Nat} (h : thr p b = false) : prt g a b = false := by
  unfold prt
  cases e : gSl g b with
  | none => simp
  | some c => rw [sl_thr hg e] at h; cases h
theorem upr_n {B : Nat} {p : Pl} {g : Gd} (hg : WfG B p g) {k : Nat} (h : nbT p k 1 = none) : upr g k = false := by
  unfold upr
  by_cases q : k % 4 ≠ 3
  · have e : nb k 1 = some (k + 1) := by unfold nb; rw [if_neg (by decide), if_pos rfl, if_pos q]
    cases t : thr p (k + 1) with
    | true => rw [nbT_of e t] at h; cases h
    | false => rw [prt_r hg t, Bool.and_false]
  · rw [decide_eq_false q]; rfl
theorem upr_s {p : Pl} {g : Gd} {k b : Nat} (h : nbT p k 1 = some b) : upr g k = prt g k b := by
  have e := (nbT_some h).1
  unfold nb at e
  rw [if_neg (by decide), if_pos rfl] at e
  by_cases q : k % 4 ≠ 3
  · rw [if_pos q] at e
    cases e
    unfold upr
    rw [decide_eq_true q]; rfl
  · rw [if_neg q] at e; cases e
theorem lev_n {B : Nat} {p : Pl} {g : Gd} (hg : WfG B p g) {k : Nat} (h : nbT p k 2 = none) : lev g k = false := by
  unfold lev
  by_cases q : k < 12
  · have e : nb k 2 = some (k + 4) := by unfold nb; rw [if_neg (by decide), if_neg (by decide), if_pos rfl, if_pos q]
    cases t : thr p (k + 4) with
    | true => rw [nbT_of e t] at h; cases h
    | false => rw [prt_r hg t, Bool.and_false]
  · rw [decide_eq_false q]; rfl
theorem lev_s {p : Pl} {g : Gd} {k b : Nat} (h : nbT p k 2 = some b) : lev g k = prt g k b := by
  have e := (nbT_some h).1
  unfold nb at e
  rw [if_neg (by decide), if_neg (by decide), if_pos rfl] at e
  by_cases q : k < 12
  · rw [if_pos q] at e
    cases e
    unfold lev
    rw [decide_eq_true q]; rfl
  · rw [if_neg q] at e; cases e
theorem seam_st1 {B : Nat} {p : Pl} {g : Gd} {M : Mem} {Q : Option Value → Mem → Prop} (hp : WfP p) (hm : RMp p M) (hg : WfG B p g) (hs : ∀ k, k < 16 → M.1 46 (16 + k) = eSl (gSl g k)) {l i m r : Nat} (hl : l < 4) (hi : i < 4) (hm4 : m ≤ 4) (hr : r ≤ 4)
    (K0 : upr g (4 * i + l) = false → WX mi_M_seam 4 Q 22 [some (.ref 37), some (.int (nI m)), some (.int (nI 1)), some (.int (nI l)), some (.int 0), some (.int (nI i + 1)), none, none] [] M)
    (K1 : upr g (4 * i + l) = true → WX mi_M_seam 4 Q 22 [some (.ref 37), some (.int (nI (max m (r + 1)))), some (.int (nI 1)), some (.int (nI l)), some (.int (nI r + 1)), some (.int (nI i + 1)), none, none] [] M) : WX mi_M_seam 4 Q 22 [some (.ref 37), some (.int (nI m)), some (.int (nI 1)), some (.int (nI l)), some (.int (nI r)), some (.int (nI i)), none, none] [] M := by
  have hk : 4 * i + l < 16 := by omega
  have ek : (4 * nI i) + nI l = nI (4 * i + l) := by rw [show (4 : Int32) = nI 4 from rfl, nI_mul, nI_add]
  have e16 : ∀ k, (16 : Int32) + nI k = nI (16 + k) := fun k => by rw [show (16 : Int32) = nI 16 from rfl, nI_add]
  have F4 : ¬ (4 : Int32) ≤ nI i := Int32.not_le.mpr (nI_lt (b := 4) hi (by decide))
  have Fw : nI 1 = 1 := by decide
  have F0 : (0 : Int32) ≤ nI m := by rw [show (0 : Int32) = nI 0 from rfl]; exact (nI_le_iff (by omega) (by omega)).mpr (by omega)
  have V1 : vp_in (16 + ((4 * nI i) + nI l)) 1257 := by rw [ek, e16]; exact vp_in_nI (by omega) (by decide)
  have eT : z_M_isThere_37 M ((4 * nI i) + nI l) = bI (thr p (4 * i + l)) := by rw [ek]; exact isThere_M hp hm hk
  have eB : z_M_beside_37 M ((4 * nI i) + nI l) (nI 1) = eSl (nbT p (4 * i + l) 1) := by rw [ek]; exact beside_M hp hm hk (by decide)
  have BC : ∀ x y, z_M_isCell_37 M x y = 0 ∨ z_M_isCell_37 M x y = 1 := fun x y => by rw [isCell_M hp hm]; exact bI_01 _
  cases ht : thr p (4 * i + l) with
  | false =>
    have f1 : ¬ ¬ z_M_isThere_37 M ((4 * nI i) + nI l) = 0 := fun c => c (by rw [eT, ht]; rfl)
    have K := K0 (by unfold upr; rw [prt_l hg ht, Bool.and_false])
    refine sg_M_seam_37_22 M _ _ _ _ _ ?_ ?_ ?_ ?_ ?_ ?_ ?_ ?_ ?_ ?_ ?_ ?_ ?_ ?_ ?_ ?_ ?_ ?_ ?_ ?_ ?_ ?_ ?_ ?_ ?_ ?_ ?_
    all_goals intros
    all_goals first | with_reducible exact absurd (by assumption) F4 | with_reducible exact absurd (by assumption) Fw | with_reducible exact absurd Fw (by assumption) | with_reducible exact absurd (by assumption) f1 | with_reducible exact BC _ _ | with_reducible exact K | with_reducible exact absurd F0 (by assumption)
  | true =>
    have f1 : ¬ z_M_isThere_37 M ((4 * nI i) + nI l) = 0 := by rw [eT, ht]; decide
    cases hn : nbT p (4 * i + l) 1 with
    | none =>
      have f2 : ¬ ¬ z_M_beside_37 M ((4 * nI i) + nI l) (nI 1) = -9 := fun c => c (by rw [eB, hn]; rfl)
      have K := K0 (upr_n hg hn)
      refine sg_M_seam_37_22 M _ _ _ _ _ ?_ ?_ ?_ ?_ ?_ ?_ ?_ ?_ ?_ ?_ ?_ ?_ ?_ ?_ ?_ ?_ ?_ ?_ ?_ ?_ ?_ ?_ ?_ ?_ ?_ ?_ ?_
      all_goals intros
      all_goals first | with_reducible exact absurd (by assumption) F4 | with_reducible exact absurd (by assumption) Fw | with_reducible exact absurd Fw (by assumption) | with_reducible exact absurd (by assumption) f1 | with_reducible exact absurd (by assumption) f2 | with_reducible exact BC _ _ | with_reducible exact K | with_reducible exact absurd F0 (by assumption)
    | some b =>
      have hb : b < 16 := nbT_lt hk hn
      have f2 : ¬ z_M_beside_37 M ((4 * nI i) + nI l) (nI 1) = -9 := by rw [eB, hn]; exact nI_nm9 (by omega)
      have V2 : vp_in (16 + z_M_beside_37 M ((4 * nI i) + nI l) (nI 1)) 1257 := by rw [eB, hn, show eSl (some b) = nI b from rfl, e16]; exact vp_in_nI (by omega) (by decide)
      have eP : z_M_part_46 M 16 ((4 * nI i) + nI l) (z_M_beside_37 M ((4 * nI i) + nI l) (nI 1)) = bI (upr g (4 * i + l)) := by
        rw [eB, hn, ek, show eSl (some b) = nI b from rfl, upr_s hn]
        exact part_46 (fun k c h => (hg.2.1 k c h).2.1.1) hs hk hb
      cases hS : upr g (4 * i + l) with
      | false =>
        have f3 : ¬ ¬ z_M_part_46 M 16 ((4 * nI i) + nI l) (z_M_beside_37 M ((4 * nI i) + nI l) (nI 1)) = 0 := fun c => c (by rw [eP, hS]; rfl)
        have K := K0 hS
        refine sg_M_seam_37_22 M _ _ _ _ _ ?_ ?_ ?_ ?_ ?_ ?_ ?_ ?_ ?_ ?_ ?_ ?_ ?_ ?_ ?_ ?_ ?_ ?_ ?_ ?_ ?_ ?_ ?_ ?_ ?_ ?_ ?_
        all_goals intros
        all_goals first | with_reducible exact absurd (by assumption) F4 | with_reducible exact absurd (by assumption) Fw | with_reducible exact absurd Fw (by assumption) | with_reducible exact absurd (by assumption) f1 | with_reducible exact absurd (by assumption) f2 | with_reducible exact absurd (by assumption) f3 | with_reducible exact BC _ _ | with_reducible exact V1 | with_reducible exact V2 | with_reducible exact K | with_reducible exact absurd F0 (by assumption)
      | true =>
        have f3 : ¬ z_M_part_46 M 16 ((4 * nI i) + nI l) (z_M_beside_37 M ((4 * nI i) + nI l) (nI 1)) = 0 := by rw [eP, hS]; decide
        have K := K1 hS
        have Ka : nI r + 1 ≤ nI m → WX mi_M_seam 4 Q 22 [some (.ref 37), some (.int (nI m)), some (.int (nI 1)), some (.int (nI l)), some (.int (nI r + 1)), some (.int (nI i + 1)), none, none] [] M := by
          intro c
          rw [nI_1, nI_le_iff (by omega) (by omega)] at c
          rw [show max m (r + 1) = m by omega] at K
          exact K
        have Kb : ¬ nI r + 1 ≤ nI m → WX mi_M_seam 4 Q 22 [some (.ref 37), some (.int (nI r + 1)), some (.int (nI 1)), some (.int (nI l)), some (.int (nI r + 1)), some (.int (nI i + 1)), none, none] [] M := by
          intro c
          rw [nI_1, nI_le_iff (by omega) (by omega)] at c
          rw [show max m (r + 1) = r + 1 by omega, ← nI_1 r] at K
          exact K
        refine sg_M_seam_37_22 M _ _ _ _ _ ?_ ?_ ?_ ?_ ?_ ?_ ?_ ?_ ?_ ?_ ?_ ?_ ?_ ?_ ?_ ?_ ?_ ?_ ?_ ?_ ?_ ?_ ?_ ?_ ?_ ?_ ?_
        all_goals intros
        all_goals first | with_reducible exact absurd (by assumption) F4 | with_reducible exact absurd (by assumption) Fw | with_reducible exact absurd Fw (by assumption) | with_reducible exact absurd (by assumption) f1 | with_reducible exact absurd (by assumption) f2 | with_reducible exact absurd (by assumption) f3 | with_reducible exact BC _ _ | with_reducible exact V1 | with_reducible exact V2 | with_reducible exact Ka (by assumption) | with_reducible exact Kb (by assumption)
theorem seam_st2 {B : Nat} {p : Pl} {g : Gd} {M : Mem} {Q : Option Value → Mem → Prop} (hp : WfP p) (hm : RMp p M) (hg : WfG B p g) (hs : ∀ k, k < 16 → M.1 46 (16 + k) = eSl (gSl g k)) {l i m r : Nat} (hl : l < 4) (hi : i < 4) (hm4 : m ≤ 4) (hr : r ≤ 4)
    (K0 : lev g (4 * l + i) = false → WX mi_M_seam 4 Q 22 [some (.ref 37), some (.int (nI m)), some (.int (nI 2)), some (.int (nI l)), some (.int 0), some (.int (nI i + 1)), none, none] [] M)
    (K1 : lev g (4 * l + i) = true → WX mi_M_seam 4 Q 22 [some (.ref 37), some (.int (nI (max m (r + 1)))), some (.int (nI 2)), some (.int (nI l)), some (.int (nI r + 1)), some (.int (nI i + 1)), none, none] [] M) : WX mi_M_seam 4 Q 22 [some (.ref 37), some (.int (nI m)), some (.int (nI 2)), some (.int (nI l)), some (.int (nI r)), some (.int (nI i)), none, none] [] M := by
  have hk : 4 * l + i < 16 := by omega
  have ek : (4 * nI l) + nI i = nI (4 * l + i) := by rw [show (4 : Int32) = nI 4 from rfl, nI_mul, nI_add]
  have e16 : ∀ k, (16 : Int32) + nI k = nI (16 + k) := fun k => by rw [show (16 : Int32) = nI 16 from rfl, nI_add]
  have F4 : ¬ (4 : Int32) ≤ nI i := Int32.not_le.mpr (nI_lt (b := 4) hi (by decide))
  have Fw : ¬ nI 2 = 1 := by decide
  have F0 : (0 : Int32) ≤ nI m := by rw [show (0 : Int32) = nI 0 from rfl]; exact (nI_le_iff (by omega) (by omega)).mpr (by omega)
  have V1 : vp_in (16 + ((4 * nI l) + nI i)) 1257 := by rw [ek, e16]; exact vp_in_nI (by omega) (by decide)
  have eT : z_M_isThere_37 M ((4 * nI l) + nI i) = bI (thr p (4 * l + i)) := by rw [ek]; exact isThere_M hp hm hk
  have eB : z_M_beside_37 M ((4 * nI l) + nI i) (nI 2) = eSl (nbT p (4 * l + i) 2) := by rw [ek]; exact beside_M hp hm hk (by decide)
  have BC : ∀ x y, z_M_isCell_37 M x y = 0 ∨ z_M_isCell_37 M x y = 1 := fun x y => by rw [isCell_M hp hm]; exact bI_01 _
  cases ht : thr p (4 * l + i) with
  | false =>
    have f1 : ¬ ¬ z_M_isThere_37 M ((4 * nI l) + nI i) = 0 := fun c => c (by rw [eT, ht]; rfl)
    have K := K0 (by unfold lev; rw [prt_l hg ht, Bool.and_false])
    refine sg_M_seam_37_22 M _ _ _ _ _ ?_ ?_ ?_ ?_ ?_ ?_ ?_ ?_ ?_ ?_ ?_ ?_ ?_ ?_ ?_ ?_ ?_ ?_ ?_ ?_ ?_ ?_ ?_ ?_ ?_ ?_ ?_
    all_goals intros
    all_goals first | with_reducible exact absurd (by assumption) F4 | with_reducible exact absurd (by assumption) Fw | with_reducible exact absurd Fw (by assumption) | with_reducible exact absurd (by assumption) f1 | with_reducible exact BC _ _ | with_reducible exact K | with_reducible exact absurd F0 (by assumption)
  | true =>
    have f1 : ¬ z_M_isThere_37 M ((4 * nI l) + nI i) = 0 := by rw [eT, ht]; decide
    cases hn : nbT p (4 * l + i) 2 with
    | none =>
      have f2 : ¬ ¬ z_M_beside_37 M ((4 * nI l) + nI i) (nI 2) = -9 := fun c => c (by rw [eB, hn]; rfl)
      have K := K0 (lev_n hg hn)
      refine sg_M_seam_37_22 M _ _ _ _ _ ?_ ?_ ?_ ?_ ?_ ?_ ?_ ?_ ?_ ?_ ?_ ?_ ?_ ?_ ?_ ?_ ?_ ?_ ?_ ?_ ?_ ?_ ?_ ?_ ?_ ?_ ?_
      all_goals intros
      all_goals first | with_reducible exact absurd (by assumption) F4 | with_reducible exact absurd (by assumption) Fw | with_reducible exact absurd Fw (by assumption) | with_reducible exact absurd (by assumption) f1 | with_reducible exact absurd (by assumption) f2 | with_reducible exact BC _ _ | with_reducible exact K | with_reducible exact absurd F0 (by assumption)
    | some b =>
      have hb : b < 16 := nbT_lt hk hn
      have f2 : ¬ z_M_beside_37 M ((4 * nI l) + nI i) (nI 2) = -9 := by rw [eB, hn]; exact nI_nm9 (by omega)
      have V2 : vp_in (16 + z_M_beside_37 M ((4 * nI l) + nI i) (nI 2)) 1257 := by rw [eB, hn, show eSl (some b) = nI b from rfl, e16]; exact vp_in_nI (by omega) (by decide)
      have eP : z_M_part_46 M 16 ((4 * nI l) + nI i) (z_M_beside_37 M ((4 * nI l) + nI i) (nI 2)) = bI (lev g (4 * l + i)) := by
        rw [eB, hn, ek, show eSl (some b) = nI b from rfl, lev_s hn]
        exact part_46 (fun k c h => (hg.2.1 k c h).2.1.1) hs hk hb
      cases hS : lev g (4 * l + i) with
      | false =>
        have f3 : ¬ ¬ z_M_part_46 M 16 ((4 * nI l) + nI i) (z_M_beside_37 M ((4 * nI l) + nI i) (nI 2)) = 0 := fun c => c (by rw [eP, hS]; rfl)
        have K := K0 hS
        refine sg_M_seam_37_22 M _ _ _ _ _ ?_ ?_ ?_ ?_ ?_ ?_ ?_ ?_ ?_ ?_ ?_ ?_ ?_ ?_ ?_ ?_ ?_ ?_ ?_ ?_ ?_ ?_ ?_ ?_ ?_ ?_ ?_
        all_goals intros
        all_goals first | with_reducible exact absurd (by assumption) F4 | with_reducible exact absurd (by assumption) Fw | with_reducible exact absurd Fw (by assumption) | with_reducible exact absurd (by assumption) f1 | with_reducible exact absurd (by assumption) f2 | with_reducible exact absurd (by assumption) f3 | with_reducible exact BC _ _ | with_reducible exact V1 | with_reducible exact V2 | with_reducible exact K | with_reducible exact absurd F0 (by assumption)
      | true =>
        have f3 : ¬ z_M_part_46 M 16 ((4 * nI l) + nI i) (z_M_beside_37 M ((4 * nI l) + nI i) (nI 2)) = 0 := by rw [eP, hS]; decide
        have K := K1 hS
        have Ka : nI r + 1 ≤ nI m → WX mi_M_seam 4 Q 22 [some (.ref 37), some (.int (nI m)), some (.int (nI 2)), some (.int (nI l)), some (.int (nI r + 1)), some (.int (nI i + 1)), none, none] [] M := by
          intro c
          rw [nI_1, nI_le_iff (by omega) (by omega)] at c
          rw [show max m (r + 1) = m by omega] at K
          exact K
        have Kb : ¬ nI r + 1 ≤ nI m → WX mi_M_seam 4 Q 22 [some (.ref 37), some (.int (nI r + 1)), some (.int (nI 2)), some (.int (nI l)), some (.int (nI r + 1)), some (.int (nI i + 1)), none, none] [] M := by
          intro c
          rw [nI_1, nI_le_iff (by omega) (by omega)] at c
          rw [show max m (r + 1) = r + 1 by omega, ← nI_1 r] at K
          exact K
        refine sg_M_seam_37_22 M _ _ _ _ _ ?_ ?_ ?_ ?_ ?_ ?_ ?_ ?_ ?_ ?_ ?_ ?_ ?_ ?_ ?_ ?_ ?_ ?_ ?_ ?_ ?_ ?_ ?_ ?_ ?_ ?_ ?_
        all_goals intros
        all_goals first | with_reducible exact absurd (by assumption) F4 | with_reducible exact absurd (by assumption) Fw | with_reducible exact absurd Fw (by assumption) | with_reducible exact absurd (by assumption) f1 | with_reducible exact absurd (by assumption) f2 | with_reducible exact absurd (by assumption) f3 | with_reducible exact BC _ _ | with_reducible exact V1 | with_reducible exact V2 | with_reducible exact Ka (by assumption) | with_reducible exact Kb (by assumption)
