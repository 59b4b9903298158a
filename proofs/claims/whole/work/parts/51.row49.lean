/-! ===== crosses, freeBy, put over the row of tried slabs; printed by wip/gen/p51.py ===== -/
theorem part_49 {g : Gd} {M : Mem} (hb : ∀ k c, gSl g k = some c → c < 64) (hs : ∀ k, k < 16 → M.1 49 (0 + k) = eSl (gSl g k)) {a b : Nat} (ha : a < 16) (hb' : b < 16) : z_M_part_49 M (nI 0) (nI a) (nI b) = bI (prt g a b) := by
  unfold z_M_part_49 prt
  rw [nI_add, nI_add, nI_clamp (by omega), nI_clamp (by omega), hs a ha, hs b hb']
  cases ea : gSl g a with
  | none => rw [if_pos (show eSl none = -9 from rfl)]; rfl
  | some c =>
    have h1 := hb a c ea
    rw [if_neg (show ¬ eSl (some c) = -9 from nI_nm9 (by omega))]
    cases eb : gSl g b with
    | none => rw [if_pos (show eSl none = -9 from rfl)]; rfl
    | some d =>
      have h2 := hb b d eb
      rw [if_neg (show ¬ eSl (some d) = -9 from nI_nm9 (by omega))]
      by_cases e : c = d
      · subst e; rw [if_pos rfl]; simp; rfl
      · rw [if_neg (show ¬ eSl (some c) = eSl (some d) from fun q => e ((nI_eq (by omega) (by omega)).mp q))]
        simp [e]; rfl
theorem wx_crosses_49 {B : Nat} {p : Pl} {g : Gd} {M : Mem} {Q : Option Value → Mem → Prop} (hp : WfP p) (hm : RMp p M) (hg : WfG B p g) (hs : ∀ k, k < 16 → M.1 49 (0 + k) = eSl (gSl g k)) (hQ : Q (some (.int (nI (cntB (crs g) 16)))) M) : WX mi_M_crosses 4 Q 0 [some (.ref 37), some (.ref 49), some (.int (nI 0)), none, none, none] [] M := by
  have hb : ∀ k c, gSl g k = some c → c < 64 := fun k c h => (hg.2.1 k c h).2.1.1
  refine sg_M_crosses_37_49_0 M _ ?_
  have loop : ∀ k, k ≤ 16 → WX mi_M_crosses 4 Q 5 [some (.ref 37), some (.ref 49), some (.int (nI 0)), some (.int (nI (cntB (crs g) k))), some (.int (nI k)), none] [] M := by
    refine downN 16 ?_ (fun k hk ih => ?_)
    · refine sg_M_crosses_37_49_5 M _ _ _ ?_ ?_ ?_ ?_ ?_ ?_ ?_ ?_ ?_ ?_ ?_ ?_ ?_ ?_ ?_ ?_ ?_ ?_ ?_ ?_ ?_ ?_ ?_ ?_ ?_ ?_ ?_ ?_ ?_ ?_ ?_ ?_ ?_ ?_ ?_
      all_goals intros
      all_goals first
        | with_reducible exact absurd ge16 (by assumption)
        | with_reducible exact hQ
    · have f1 := lt16 hk
      have hcell : ∀ x y : Int32, z_M_isCell_37 M x y = 0 ∨ z_M_isCell_37 M x y = 1 := fun x y => by rw [isCell_M hp hm]; exact bI_01 _
      have no : crs g k = false → WX mi_M_crosses 4 Q 5 [some (.ref 37), some (.ref 49), some (.int (nI 0)), some (.int (nI (cntB (crs g) k))), some (.int (nI k + 1)), none] [] M := by
        intro h
        have e : cntB (crs g) (k + 1) = cntB (crs g) k := by show cntB (crs g) k + t1 (crs g) k = _; unfold t1; rw [h]; rfl
        rw [e, show nI (k + 1) = nI k + 1 from (nI_1 k).symm] at ih
        exact ih
      by_cases hc : (thr p k = true ∧ k % 4 ≠ 3 ∧ k < 12) ∧ thr p (k + 5) = true
      · obtain ⟨⟨ht, h3, h12⟩, h5⟩ := hc
        have f2 : ¬ z_M_isThere_37 M (nI k) = 0 := by rw [isThere_M hp hm hk, ht]; decide
        have exy : rem (nI k) 4 + 1 = nI ((k + 5) % 4) ∧ nI k / 4 + 1 = nI ((k + 5) / 4) := by
          have : ∀ k, k < 12 → k % 4 ≠ 3 → (rem (nI k) 4 + 1 = nI ((k + 5) % 4) ∧ nI k / 4 + 1 = nI ((k + 5) / 4)) := by decide +kernel
          exact this k h12 h3
        have f3 : ¬ z_M_isCell_37 M (rem (nI k) 4 + 1) (nI k / 4 + 1) = 0 := by rw [exy.1, exy.2, isCell_M hp hm, okc_thr (by omega), h5]; decide
        have e1 : nI k + 1 = nI (k + 1) := nI_1 k
        have e4 : nI k + 4 = nI (k + 4) := nI_add k 4
        have e5 : (nI k + 4) + 1 = nI (k + 5) := by rw [e4, nI_1]
        have v0 : vp_in (nI 0 + nI k) 16 := by rw [nI_add]; exact vp_in_nI (by omega) (by decide)
        have v1 : vp_in (nI 0 + (nI k + 1)) 16 := by rw [e1, nI_add]; exact vp_in_nI (by omega) (by decide)
        have v4 : vp_in (nI 0 + (nI k + 4)) 16 := by rw [e4, nI_add]; exact vp_in_nI (by omega) (by decide)
        have v5 : vp_in (nI 0 + ((nI k + 4) + 1)) 16 := by rw [e5, nI_add]; exact vp_in_nI (by omega) (by decide)
        have q0 : z_M_part_49 M (nI 0) (nI k) (nI k + 1) = bI (prt g k (k + 1)) := by rw [e1]; exact part_49 hb hs (by omega) (by omega)
        have q1 : z_M_part_49 M (nI 0) (nI k) (nI k + 4) = bI (prt g k (k + 4)) := by rw [e4]; exact part_49 hb hs (by omega) (by omega)
        have q2 : z_M_part_49 M (nI 0) (nI k) ((nI k + 4) + 1) = bI (prt g k (k + 5)) := by rw [e5]; exact part_49 hb hs (by omega) (by omega)
        have q3 : z_M_part_49 M (nI 0) (nI k + 1) (nI k + 4) = bI (prt g (k + 1) (k + 4)) := by rw [e1, e4]; exact part_49 hb hs (by omega) (by omega)
        have q4 : z_M_part_49 M (nI 0) (nI k + 1) ((nI k + 4) + 1) = bI (prt g (k + 1) (k + 5)) := by rw [e5, e1]; exact part_49 hb hs (by omega) (by omega)
        have q5 : z_M_part_49 M (nI 0) (nI k + 4) ((nI k + 4) + 1) = bI (prt g (k + 4) (k + 5)) := by rw [e5, e4]; exact part_49 hb hs (by omega) (by omega)
        cases r0 : prt g k (k + 1) with
        | false =>
          have g0 : z_M_part_49 M (nI 0) (nI k) (nI k + 1) = 0 := by rw [q0, r0]; rfl
          have K := no (by unfold crs; rw [r0]; simp)
          rw [show nI (cntB (crs g) k) = nI (cntB (crs g) k) + 0 from (Int32.add_zero _).symm] at K
          refine sg_M_crosses_37_49_5 M _ _ _ ?_ ?_ ?_ ?_ ?_ ?_ ?_ ?_ ?_ ?_ ?_ ?_ ?_ ?_ ?_ ?_ ?_ ?_ ?_ ?_ ?_ ?_ ?_ ?_ ?_ ?_ ?_ ?_ ?_ ?_ ?_ ?_ ?_ ?_ ?_
          all_goals intros
          all_goals first
            | with_reducible exact absurd (by assumption) f1
            | with_reducible exact absurd (by assumption) f2
            | with_reducible exact absurd (by assumption) f3
            | with_reducible exact absurd g0 (by assumption)
            | with_reducible exact v0
            | with_reducible exact v1
            | with_reducible exact v4
            | with_reducible exact v5
            | with_reducible exact hcell _ _
            | with_reducible exact K
        | true =>
          have g0 : ¬ z_M_part_49 M (nI 0) (nI k) (nI k + 1) = 0 := by rw [q0, r0]; decide
          cases r1 : prt g k (k + 4) with
          | false =>
            have g1 : z_M_part_49 M (nI 0) (nI k) (nI k + 4) = 0 := by rw [q1, r1]; rfl
            have K := no (by unfold crs; rw [r1]; simp)
            rw [show nI (cntB (crs g) k) = nI (cntB (crs g) k) + 0 from (Int32.add_zero _).symm] at K
            refine sg_M_crosses_37_49_5 M _ _ _ ?_ ?_ ?_ ?_ ?_ ?_ ?_ ?_ ?_ ?_ ?_ ?_ ?_ ?_ ?_ ?_ ?_ ?_ ?_ ?_ ?_ ?_ ?_ ?_ ?_ ?_ ?_ ?_ ?_ ?_ ?_ ?_ ?_ ?_ ?_
            all_goals intros
            all_goals first
              | with_reducible exact absurd (by assumption) f1
              | with_reducible exact absurd (by assumption) f2
              | with_reducible exact absurd (by assumption) f3
              | with_reducible exact absurd (by assumption) g0
              | with_reducible exact absurd g1 (by assumption)
              | with_reducible exact v0
              | with_reducible exact v1
              | with_reducible exact v4
              | with_reducible exact v5
              | with_reducible exact hcell _ _
              | with_reducible exact K
          | true =>
            have g1 : ¬ z_M_part_49 M (nI 0) (nI k) (nI k + 4) = 0 := by rw [q1, r1]; decide
            cases r2 : prt g k (k + 5) with
            | false =>
              have g2 : z_M_part_49 M (nI 0) (nI k) ((nI k + 4) + 1) = 0 := by rw [q2, r2]; rfl
              have K := no (by unfold crs; rw [r2]; simp)
              rw [show nI (cntB (crs g) k) = nI (cntB (crs g) k) + 0 from (Int32.add_zero _).symm] at K
              refine sg_M_crosses_37_49_5 M _ _ _ ?_ ?_ ?_ ?_ ?_ ?_ ?_ ?_ ?_ ?_ ?_ ?_ ?_ ?_ ?_ ?_ ?_ ?_ ?_ ?_ ?_ ?_ ?_ ?_ ?_ ?_ ?_ ?_ ?_ ?_ ?_ ?_ ?_ ?_ ?_
              all_goals intros
              all_goals first
                | with_reducible exact absurd (by assumption) f1
                | with_reducible exact absurd (by assumption) f2
                | with_reducible exact absurd (by assumption) f3
                | with_reducible exact absurd (by assumption) g0
                | with_reducible exact absurd (by assumption) g1
                | with_reducible exact absurd g2 (by assumption)
                | with_reducible exact v0
                | with_reducible exact v1
                | with_reducible exact v4
                | with_reducible exact v5
                | with_reducible exact hcell _ _
                | with_reducible exact K
            | true =>
              have g2 : ¬ z_M_part_49 M (nI 0) (nI k) ((nI k + 4) + 1) = 0 := by rw [q2, r2]; decide
              cases r3 : prt g (k + 1) (k + 4) with
              | false =>
                have g3 : z_M_part_49 M (nI 0) (nI k + 1) (nI k + 4) = 0 := by rw [q3, r3]; rfl
                have K := no (by unfold crs; rw [r3]; simp)
                rw [show nI (cntB (crs g) k) = nI (cntB (crs g) k) + 0 from (Int32.add_zero _).symm] at K
                refine sg_M_crosses_37_49_5 M _ _ _ ?_ ?_ ?_ ?_ ?_ ?_ ?_ ?_ ?_ ?_ ?_ ?_ ?_ ?_ ?_ ?_ ?_ ?_ ?_ ?_ ?_ ?_ ?_ ?_ ?_ ?_ ?_ ?_ ?_ ?_ ?_ ?_ ?_ ?_ ?_
                all_goals intros
                all_goals first
                  | with_reducible exact absurd (by assumption) f1
                  | with_reducible exact absurd (by assumption) f2
                  | with_reducible exact absurd (by assumption) f3
                  | with_reducible exact absurd (by assumption) g0
                  | with_reducible exact absurd (by assumption) g1
                  | with_reducible exact absurd (by assumption) g2
                  | with_reducible exact absurd g3 (by assumption)
                  | with_reducible exact v0
                  | with_reducible exact v1
                  | with_reducible exact v4
                  | with_reducible exact v5
                  | with_reducible exact hcell _ _
                  | with_reducible exact K
              | true =>
                have g3 : ¬ z_M_part_49 M (nI 0) (nI k + 1) (nI k + 4) = 0 := by rw [q3, r3]; decide
                cases r4 : prt g (k + 1) (k + 5) with
                | false =>
                  have g4 : z_M_part_49 M (nI 0) (nI k + 1) ((nI k + 4) + 1) = 0 := by rw [q4, r4]; rfl
                  have K := no (by unfold crs; rw [r4]; simp)
                  rw [show nI (cntB (crs g) k) = nI (cntB (crs g) k) + 0 from (Int32.add_zero _).symm] at K
                  refine sg_M_crosses_37_49_5 M _ _ _ ?_ ?_ ?_ ?_ ?_ ?_ ?_ ?_ ?_ ?_ ?_ ?_ ?_ ?_ ?_ ?_ ?_ ?_ ?_ ?_ ?_ ?_ ?_ ?_ ?_ ?_ ?_ ?_ ?_ ?_ ?_ ?_ ?_ ?_ ?_
                  all_goals intros
                  all_goals first
                    | with_reducible exact absurd (by assumption) f1
                    | with_reducible exact absurd (by assumption) f2
                    | with_reducible exact absurd (by assumption) f3
                    | with_reducible exact absurd (by assumption) g0
                    | with_reducible exact absurd (by assumption) g1
                    | with_reducible exact absurd (by assumption) g2
                    | with_reducible exact absurd (by assumption) g3
                    | with_reducible exact absurd g4 (by assumption)
                    | with_reducible exact v0
                    | with_reducible exact v1
                    | with_reducible exact v4
                    | with_reducible exact v5
                    | with_reducible exact hcell _ _
                    | with_reducible exact K
                | true =>
                  have g4 : ¬ z_M_part_49 M (nI 0) (nI k + 1) ((nI k + 4) + 1) = 0 := by rw [q4, r4]; decide
                  cases r5 : prt g (k + 4) (k + 5) with
                  | false =>
                    have g5 : z_M_part_49 M (nI 0) (nI k + 4) ((nI k + 4) + 1) = 0 := by rw [q5, r5]; rfl
                    have K := no (by unfold crs; rw [r5]; simp)
                    rw [show nI (cntB (crs g) k) = nI (cntB (crs g) k) + 0 from (Int32.add_zero _).symm] at K
                    refine sg_M_crosses_37_49_5 M _ _ _ ?_ ?_ ?_ ?_ ?_ ?_ ?_ ?_ ?_ ?_ ?_ ?_ ?_ ?_ ?_ ?_ ?_ ?_ ?_ ?_ ?_ ?_ ?_ ?_ ?_ ?_ ?_ ?_ ?_ ?_ ?_ ?_ ?_ ?_ ?_
                    all_goals intros
                    all_goals first
                      | with_reducible exact absurd (by assumption) f1
                      | with_reducible exact absurd (by assumption) f2
                      | with_reducible exact absurd (by assumption) f3
                      | with_reducible exact absurd (by assumption) g0
                      | with_reducible exact absurd (by assumption) g1
                      | with_reducible exact absurd (by assumption) g2
                      | with_reducible exact absurd (by assumption) g3
                      | with_reducible exact absurd (by assumption) g4
                      | with_reducible exact absurd g5 (by assumption)
                      | with_reducible exact v0
                      | with_reducible exact v1
                      | with_reducible exact v4
                      | with_reducible exact v5
                      | with_reducible exact hcell _ _
                      | with_reducible exact K
                  | true =>
                    have g5 : ¬ z_M_part_49 M (nI 0) (nI k + 4) ((nI k + 4) + 1) = 0 := by rw [q5, r5]; decide
                    have yes : crs g k = true := by unfold crs; rw [decide_eq_true h3, decide_eq_true h12, r0, r1, r2, r3, r4, r5]; rfl
                    have K := ih
                    rw [show cntB (crs g) (k + 1) = cntB (crs g) k + 1 by show cntB (crs g) k + t1 (crs g) k = _; unfold t1; rw [if_pos yes], show nI (k + 1) = nI k + 1 from (nI_1 k).symm, show nI (cntB (crs g) k + 1) = nI (cntB (crs g) k) + 1 from (nI_1 _).symm] at K
                    refine sg_M_crosses_37_49_5 M _ _ _ ?_ ?_ ?_ ?_ ?_ ?_ ?_ ?_ ?_ ?_ ?_ ?_ ?_ ?_ ?_ ?_ ?_ ?_ ?_ ?_ ?_ ?_ ?_ ?_ ?_ ?_ ?_ ?_ ?_ ?_ ?_ ?_ ?_ ?_ ?_
                    all_goals intros
                    all_goals first
                      | with_reducible exact absurd (by assumption) f1
                      | with_reducible exact absurd (by assumption) f2
                      | with_reducible exact absurd (by assumption) f3
                      | with_reducible exact absurd (by assumption) g0
                      | with_reducible exact absurd (by assumption) g1
                      | with_reducible exact absurd (by assumption) g2
                      | with_reducible exact absurd (by assumption) g3
                      | with_reducible exact absurd (by assumption) g4
                      | with_reducible exact absurd (by assumption) g5
                      | with_reducible exact v0
                      | with_reducible exact v1
                      | with_reducible exact v4
                      | with_reducible exact v5
                      | with_reducible exact hcell _ _
                      | with_reducible exact K
      · have K := no (by
          cases h : crs g k with
          | false => rfl
          | true =>
            unfold crs prt at h
            simp only [Bool.and_eq_true, decide_eq_true_eq] at h
            obtain ⟨⟨h3, h12⟩, hx⟩ := h
            obtain ⟨c, hc1⟩ := Option.isSome_iff_exists.mp hx.1.1.1.1.1.1.1
            obtain ⟨d, hd1⟩ := Option.isSome_iff_exists.mp hx.1.1.1.2.1.2
            exact absurd ⟨⟨layb_thr ((hg.2.1 k c hc1).2.2.2 k (hg.2.1 k c hc1).2.2.1).2.1, h3, h12⟩, layb_thr ((hg.2.1 _ d hd1).2.2.2 _ (hg.2.1 _ d hd1).2.2.1).2.1⟩ hc)
        by_cases ht : thr p k = true
        · have f2 : ¬ z_M_isThere_37 M (nI k) = 0 := by rw [isThere_M hp hm hk, ht]; decide
          have f3 : z_M_isCell_37 M (rem (nI k) 4 + 1) (nI k / 4 + 1) = 0 := by
            rw [isCell_M hp hm, bI_0]
            by_cases h3 : k % 4 ≠ 3
            · by_cases h12 : k < 12
              · have exy : rem (nI k) 4 + 1 = nI ((k + 5) % 4) ∧ nI k / 4 + 1 = nI ((k + 5) / 4) := by
                  have : ∀ k, k < 12 → k % 4 ≠ 3 → (rem (nI k) 4 + 1 = nI ((k + 5) % 4) ∧ nI k / 4 + 1 = nI ((k + 5) / 4)) := by decide +kernel
                  exact this k h12 h3
                rw [exy.1, exy.2, okc_thr (by omega)]
                cases q : thr p (k + 5) with
                | false => rfl
                | true => exact absurd ⟨⟨ht, h3, h12⟩, q⟩ hc
              · rw [b_dn' k hk h12]; exact okc_4y hp _
            · rw [b_rt' k hk h3]; exact okc_4x hp _
          refine sg_M_crosses_37_49_5 M _ _ _ ?_ ?_ ?_ ?_ ?_ ?_ ?_ ?_ ?_ ?_ ?_ ?_ ?_ ?_ ?_ ?_ ?_ ?_ ?_ ?_ ?_ ?_ ?_ ?_ ?_ ?_ ?_ ?_ ?_ ?_ ?_ ?_ ?_ ?_ ?_
          all_goals intros
          all_goals first
            | with_reducible exact absurd (by assumption) f1
            | with_reducible exact absurd (by assumption) f2
            | with_reducible exact absurd f3 (by assumption)
            | with_reducible exact hcell _ _
            | with_reducible exact K
        · have f2 : z_M_isThere_37 M (nI k) = 0 := by rw [isThere_M hp hm hk, show thr p k = false by simpa using ht]; rfl
          refine sg_M_crosses_37_49_5 M _ _ _ ?_ ?_ ?_ ?_ ?_ ?_ ?_ ?_ ?_ ?_ ?_ ?_ ?_ ?_ ?_ ?_ ?_ ?_ ?_ ?_ ?_ ?_ ?_ ?_ ?_ ?_ ?_ ?_ ?_ ?_ ?_ ?_ ?_ ?_ ?_
          all_goals intros
          all_goals first
            | with_reducible exact absurd (by assumption) f1
            | with_reducible exact absurd f2 (by assumption)
            | with_reducible exact hcell _ _
            | with_reducible exact K
  exact loop 0 (by decide)
theorem wx_freeBy49 {p : Pl} {sl : Nat → Option Nat} {M : Mem} {Q : Option Value → Mem → Prop} (hp : WfP p) (hm : RMp p M) {o : Nat} (ho : o + 16 ≤ 16) (hs : ∀ k, k < 16 → M.1 49 (o + k) = eSl (sl k)) (hb : ∀ k c, sl k = some c → c < 64) (hq : Q (some (.int (sI (fun k => layb p k && !(sl k).isSome)))) M) : WX mi_M_freeBy 4 Q 0 [some (.ref 37), some (.ref 49), some (.int (nI o)), none, none] [] M := by
  refine sg_M_freeBy_37_49_0 M _ ?_
  have loop : ∀ u, u ≤ 16 → WX mi_M_freeBy 4 Q 5 [some (.ref 37), some (.ref 49), some (.int (nI o)), some (.int (sI (fst (fun k => layb p k && !(sl k).isSome) u))), some (.int (nI u))] [] M := by
    refine downN 16 ?_ (fun u hu ih => ?_)
    · rw [fst_16]
      exact sg_M_freeBy_37_49_5 M _ _ _ (fun _ => hq) (fun c => absurd ge16 c) (fun c => absurd ge16 c) (fun c => absurd ge16 c) (fun c => absurd ge16 c) (fun c => absurd ge16 c) (fun c => absurd ge16 c) (fun c => absurd ge16 c)
    · have eo : nI o + nI u = nI (o + u) := nI_add o u
      have e1 : M.1 49 (nI o + nI u).toNatClampNeg = eSl (sl u) := by rw [eo, nI_clamp (by omega)]; exact hs u hu
      refine sg_M_freeBy_37_49_5 M _ _ _ (fun c => absurd c (lt16 hu)) (fun _ => by rw [remOf u hu, divOf u hu, isCell_M hp hm]; exact bI_01 _) (fun _ c => ?_) (fun _ _ c => ?_) (fun _ _ _ c => ?_) (fun _ _ _ _ => by rw [eo]; exact vp_in_nI (by omega) (by decide)) (fun _ _ _ _ c => ?_) (fun _ c1 c2 c3 c4 => ?_)
      · rw [isThere_M hp hm hu, bI_0] at c
        rw [or0, nI_1, fst_f _ (show (layb p u && !(sl u).isSome) = false by unfold layb; simp [c])]
        exact ih
      · rw [isLid_M hm hu, bI_0] at c
        have c' : pL p u = true := by simpa using c
        rw [or0, nI_1, fst_f _ (show (layb p u && !(sl u).isSome) = false by unfold layb; simp [c'])]
        exact ih
      · rw [isDrain_M hm hu, bI_0] at c
        have c' : pD p u = true := by simpa using c
        rw [or0, nI_1, fst_f _ (show (layb p u && !(sl u).isSome) = false by unfold layb; simp [c'])]
        exact ih
      · rw [e1, eSl_m9 (hb u)] at c
        have c' : (sl u).isSome = true := by cases h : sl u with | none => exact absurd h c | some _ => rfl
        rw [or0, nI_1, fst_f _ (show (layb p u && !(sl u).isSome) = false by simp [c'])]
        exact ih
      · rw [isThere_M hp hm hu, bI_0] at c1
        rw [isLid_M hm hu, bI_0] at c2
        rw [isDrain_M hm hu, bI_0] at c3
        rw [e1, eSl_m9 (hb u)] at c4
        have c1' : thr p u = true := by simpa using c1
        rw [nI_1, fst_t _ (show (layb p u && !(sl u).isSome) = true by unfold layb; simp [c1', c2, c3, c4]) hu]
        exact ih
  have h0 := loop 0 (by decide)
  rw [fst_0] at h0
  exact h0
theorem wx_putM49 {f : Nat → Bool} {v : Int32} {M : Mem} {Q : Option Value → Mem → Prop} (hQ : ∀ M', (∀ j, M'.1 49 j = if j < 16 ∧ f j = true then v else M.1 49 j) → (∀ q, q ≠ 49 → M'.1 q = M.1 q) → M'.2 = M.2 → Q none M') : WX mi_M_put 1 Q 0 [some (.ref 49), some (.int 0), some (.int (sI f)), some (.int v), none] [] M := by
  refine sg_M_put_49_0 M _ _ _ ?_
  have loop : ∀ n, n ≤ 16 → ∀ M1 : Mem, (∀ j, M1.1 49 j = if j < n ∧ f j = true then v else M.1 49 j) → (∀ q, q ≠ 49 → M1.1 q = M.1 q) → M1.2 = M.2 → WX mi_M_put 1 Q 3 [some (.ref 49), some (.int 0), some (.int (sI f)), some (.int v), some (.int (nI n))] [] M1 := by
    refine downN 16 (fun M1 h1 h2 h3 => ?_) (fun n hn ih M1 h1 h2 h3 => ?_)
    · exact sg_M_put_49_3 M1 _ _ _ _ (fun _ => hQ M1 h1 h2 h3) (fun c => absurd ge16 c) (fun c => absurd ge16 c) (fun c => absurd ge16 c) (fun c => absurd ge16 c)
    · have e : (0 : Int32) + nI n = nI n := Int32.zero_add _
      have eb : (shr (sI f) (nI n)) &&& 1 = bI (f n) := by
        rw [bit_at (by omega), bt_sI f (by omega)]
        simp [hn]
      refine sg_M_put_49_3 M1 _ _ _ _ (fun c => absurd c (lt16 hn)) (fun _ _ => by rw [e]; exact vp_in_nI (by omega) (by decide)) (fun _ c => ?_) (fun _ _ => by rw [e]; exact vp_in_nI (by omega) (by decide)) (fun _ c => ?_)
      · rw [eb, bI_1] at c
        rw [e, nI_1, nI_clamp (by omega)]
        refine ih _ (fun j => ?_) (fun q hq => by rw [wr_ne _ hq]; exact h2 q hq) h3
        rw [upd_row]
        have hj := h1 j
        by_cases ej : j = n
        · rw [if_pos ej, ← ej, hj, if_neg (by rintro ⟨q, -⟩; omega), if_neg (by rintro ⟨-, q⟩; rw [ej] at q; exact c q)]
        · rw [if_neg ej, hj]
          have : (j < n ∧ f j = true) ↔ (j < n + 1 ∧ f j = true) := by
            constructor
            · rintro ⟨b, c⟩; exact ⟨by omega, c⟩
            · rintro ⟨b, c⟩; exact ⟨by omega, c⟩
          simp only [this]
      · rw [eb, bI_1] at c
        rw [e, nI_1, nI_clamp (by omega)]
        refine ih _ (fun j => ?_) (fun q hq => by rw [wr_ne _ hq]; exact h2 q hq) h3
        rw [upd_row]
        have hj := h1 j
        by_cases ej : j = n
        · rw [if_pos ej, if_pos ⟨by omega, by rw [ej]; exact c⟩]
        · rw [if_neg ej, hj]
          have : (j < n ∧ f j = true) ↔ (j < n + 1 ∧ f j = true) := by
            constructor
            · rintro ⟨b, c⟩; exact ⟨by omega, c⟩
            · rintro ⟨b, c⟩; exact ⟨by omega, c⟩
          simp only [this]
  exact loop 0 (by decide) M (fun j => by rw [if_neg (by rintro ⟨q, -⟩; omega)]) (fun _ _ => rfl) rfl
/-! ===== the lowest cell of a set ===== -/
theorem sN_0 {f : Nat → Bool} : ∀ n, (∀ j, j < n → f j = false) → sN n f = 0
  | 0, _ => rfl
  | n + 1, h => by
    show sN n f + (if f n = true then 2 ^ n else 0) = 0
    rw [sN_0 n (fun j hj => h j (by omega)), h n (by omega)]; rfl
theorem sN_1 {f : Nat → Bool} : ∀ n, (∀ j, j < n → f j = true) → sN n f + 1 = 2 ^ n
  | 0, _ => rfl
  | n + 1, h => by
    show sN n f + (if f n = true then 2 ^ n else 0) + 1 = 2 ^ (n + 1)
    have := sN_1 n (fun j hj => h j (by omega))
    rw [if_pos (h n (by omega)), Nat.pow_succ]
    omega
def lwH (k : Nat) (f : Nat → Bool) (j : Nat) : Bool := decide (j < k) || (decide (k < j) && f j)
theorem sN_low {f : Nat → Bool} {k : Nat} (hk : f k = true) (h0 : ∀ j, j < k → f j = false) : ∀ n, k < n → sN n f = sN n (lwH k f) + 1
  | 0, h => absurd h (Nat.not_lt_zero k)
  | n + 1, h => by
    show sN n f + (if f n = true then 2 ^ n else 0) = sN n (lwH k f) + (if lwH k f n = true then 2 ^ n else 0) + 1
    by_cases e : k = n
    · subst e
      have e1 : lwH k f k = false := by unfold lwH; simp
      rw [sN_0 k h0, if_pos hk, e1]
      have := sN_1 (f := lwH k f) k (fun j hj => by unfold lwH; rw [decide_eq_true hj]; rfl)
      simp
      omega
    · have e1 : lwH k f n = f n := by
        unfold lwH
        rw [decide_eq_false (show ¬ n < k by omega), decide_eq_true (show k < n by omega)]
        simp
      rw [e1, sN_low hk h0 n (by omega)]
      omega
theorem sI_low1 {f : Nat → Bool} {k : Nat} (hk16 : k < 16) (hk : f k = true) (h0 : ∀ j, j < k → f j = false) : sI f - 1 = sI (lwH k f) := by
  unfold sI
  rw [sN_low hk h0 16 hk16]
  exact nI_pred _
theorem neg_xor (a : Int32) : -a = (a - 1) ^^^ (-1) := by
  rw [Int32.xor_neg_one, Int32.not_eq_neg_add, Int32.neg_sub]
  grind
theorem cnt_below : ∀ n k, k ≤ n → cntB (fun j => decide (j < k)) n = k
  | 0, k, h => (Nat.le_zero.mp h).symm
  | n + 1, k, h => by
    show cntB (fun j => decide (j < k)) n + t1 (fun j => decide (j < k)) n = k
    by_cases e : k = n + 1
    · rw [e, cntB_congr n (g' := fun j => decide (j < n)) (fun j hj => by rw [decide_eq_true hj, decide_eq_true (by omega)]), cnt_below n n (Nat.le_refl n)]
      unfold t1
      rw [if_pos (decide_eq_true (show n < n + 1 by omega))]
    · rw [cnt_below n k (by omega)]
      unfold t1
      rw [if_neg (by dsimp only; rw [decide_eq_false (show ¬ n < k by omega)]; decide)]; rfl
theorem low_C {f : Nat → Bool} {k : Nat} (hk16 : k < 16) (hk : f k = true) (h0 : ∀ j, j < k → f j = false) : z_I_bitCount ((sI f &&& (-(sI f))) - 1) = nI k := by
  rw [neg_xor, sI_low1 hk16 hk h0, sI_diff]
  have e : sI (fun j => f j && !lwH k f j) = sI (fun j => decide (j = k)) := sI_ext fun j hj => by
    unfold lwH
    by_cases q : j < k
    · rw [h0 j q, decide_eq_false (show ¬ j = k by omega)]; rfl
    · by_cases q2 : j = k
      · rw [q2, hk, decide_eq_true (show k = k from rfl)]; simp
      · rw [decide_eq_true (show k < j by omega), decide_eq_false q2]; cases f j <;> simp
  rw [e, sI_low1 (f := fun j => decide (j = k)) hk16 (decide_eq_true rfl) (fun j hj => decide_eq_false (by omega)), bitCount_sI]
  have e2 : cntB (lwH k (fun j => decide (j = k))) 16 = cntB (fun j => decide (j < k)) 16 := cntB_congr 16 (fun j hj => by
    unfold lwH
    by_cases q : j < k
    · rw [decide_eq_true q]; rfl
    · rw [decide_eq_false q]
      by_cases q2 : k < j
      · dsimp only
        rw [decide_eq_true q2, decide_eq_false (show ¬ j = k by omega)]; rfl
      · rw [decide_eq_false q2]; rfl)
  rw [e2, cnt_below 16 k (by omega)]
theorem wx_lowest {f : Nat → Bool} {k : Nat} {M : Mem} {Q : Option Value → Mem → Prop} (hk16 : k < 16) (hk : f k = true) (h0 : ∀ j, j < k → f j = false) (hQ : Q (some (.int (nI k))) M) : WX mi_M_lowest 1 Q 0 [some (.ref 37), some (.int (sI f)), none] [] M := by
  refine sg_M_lowest_37_0 M _ ?_
  have eb : ∀ n, n < 16 → (shr (sI f) (nI n)) &&& 1 = bI (f n) := fun n hn => by
    rw [bit_at (by omega), bt_sI f (by omega)]
    simp [hn]
  have loop : ∀ n, n ≤ k → WX mi_M_lowest 1 Q 2 [some (.ref 37), some (.int (sI f)), some (.int (nI n))] [] M := by
    refine downN k ?_ (fun n hn ih => ?_)
    · exact sg_M_lowest_37_2 M _ _ (fun _ => hQ) (fun c => by rw [eb k hk16, hk] at c; exact absurd c (by decide))
    · refine sg_M_lowest_37_2 M _ _ (fun c => absurd (by rw [eb n (by omega), h0 n hn]; rfl) c) (fun _ => ?_)
      rw [nI_1]
      exact ih
  exact loop 0 (Nat.zero_le _)
def lwN (f : Nat → Bool) : Nat → Nat
  | 0 => 0
  | n + 1 => if lwN f n < n then lwN f n else if f n = true then n else n + 1
theorem lwN_spec (f : Nat → Bool) : ∀ n, lwN f n ≤ n ∧ (∀ j, j < lwN f n → f j = false) ∧ (lwN f n < n → f (lwN f n) = true)
  | 0 => ⟨Nat.le_refl 0, fun j hj => absurd hj (Nat.not_lt_zero j), fun h => absurd h (Nat.not_lt_zero 0)⟩
  | n + 1 => by
    obtain ⟨h1, h2, h3⟩ := lwN_spec f n
    by_cases q : lwN f n < n
    · have e : lwN f (n + 1) = lwN f n := if_pos q
      rw [e]
      exact ⟨by omega, h2, fun _ => h3 q⟩
    · have en : lwN f n = n := by omega
      by_cases q2 : f n = true
      · have e : lwN f (n + 1) = n := by
          show (if lwN f n < n then lwN f n else if f n = true then n else n + 1) = n
          rw [if_neg q, if_pos q2]
        rw [e]
        exact ⟨by omega, fun j hj => h2 j (by omega), fun _ => q2⟩
      · have e : lwN f (n + 1) = n + 1 := by
          show (if lwN f n < n then lwN f n else if f n = true then n else n + 1) = n + 1
          rw [if_neg q, if_neg q2]
        rw [e]
        refine ⟨by omega, fun j hj => ?_, fun h => absurd h (Nat.lt_irrefl _)⟩
        by_cases q3 : j = n
        · rw [q3]; simpa using q2
        · exact h2 j (by omega)
theorem lwN_of {f : Nat → Bool} (h : ∃ k, k < 16 ∧ f k = true) : lwN f 16 < 16 ∧ f (lwN f 16) = true ∧ ∀ j, j < lwN f 16 → f j = false := by
  obtain ⟨h1, h2, h3⟩ := lwN_spec f 16
  have : lwN f 16 < 16 := by
    obtain ⟨k, hk, hf⟩ := h
    refine Decidable.byContradiction (fun q => ?_)
    have := h2 k (by omega)
    rw [hf] at this
    cases this
  exact ⟨this, h3 this, h2⟩
