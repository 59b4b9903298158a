/-! ===== crosses, the model's; printed by wip/gen/p42.py ===== -/
theorem part_46 {g : Gd} {M : Mem} (hb : ∀ k c, gSl g k = some c → c < 64) (hs : ∀ k, k < 16 → M.1 46 (16 + k) = eSl (gSl g k)) {a b : Nat} (ha : a < 16) (hb' : b < 16) : z_M_part_46 M (nI 16) (nI a) (nI b) = bI (prt g a b) := by
  unfold z_M_part_46 prt
  rw [nI_add, nI_add, nI_clamp (by omega), nI_clamp (by omega), hs a ha, hs b hb']
  cases ea : gSl g a with
  | none => rw [if_pos (show eSl none = -9 from rfl)]; rfl
  | some c =>
    have h1 := hb a c ea
    rw [if_neg (show ¬ eSl (some c) = -9 from nI_nm9 (by omega))]
    cases eb : gSl g b with
    | none => rw [if_pos (show eSl none = -9 from rfl)]; rfl
    | some d =>
      have h2 := hb b d eb
      rw [if_neg (show ¬ eSl (some d) = -9 from nI_nm9 (by omega))]
      by_cases e : c = d
      · subst e; rw [if_pos rfl]; simp; rfl
      · rw [if_neg (show ¬ eSl (some c) = eSl (some d) from fun q => e ((nI_eq (by omega) (by omega)).mp q))]
        simp [e]; rfl
theorem wx_crosses_46 {B : Nat} {p : Pl} {g : Gd} {M : Mem} {Q : Option Value → Mem → Prop} (hp : WfP p) (hm : RMp p M) (hg : WfG B p g) (hs : ∀ k, k < 16 → M.1 46 (16 + k) = eSl (gSl g k)) (hQ : Q (some (.int (nI (cntB (crs g) 16)))) M) : WX mi_M_crosses 4 Q 0 [some (.ref 37), some (.ref 46), some (.int (nI 16)), none, none, none] [] M := by
  have hb : ∀ k c, gSl g k = some c → c < 64 := fun k c h => (hg.2.1 k c h).2.1.1
  refine sg_M_crosses_37_46_0 M _ ?_
  have loop : ∀ k, k ≤ 16 → WX mi_M_crosses 4 Q 5 [some (.ref 37), some (.ref 46), some (.int (nI 16)), some (.int (nI (cntB (crs g) k))), some (.int (nI k)), none] [] M := by
    refine downN 16 ?_ (fun k hk ih => ?_)
    · refine sg_M_crosses_37_46_5 M _ _ _ ?_ ?_ ?_ ?_ ?_ ?_ ?_ ?_ ?_ ?_ ?_ ?_ ?_ ?_ ?_ ?_ ?_ ?_ ?_ ?_ ?_ ?_ ?_ ?_ ?_ ?_ ?_ ?_ ?_ ?_ ?_ ?_ ?_ ?_ ?_
      all_goals intros
      all_goals first
        | with_reducible exact absurd ge16 (by assumption)
        | with_reducible exact hQ
    · have f1 := lt16 hk
      have hcell : ∀ x y : Int32, z_M_isCell_37 M x y = 0 ∨ z_M_isCell_37 M x y = 1 := fun x y => by rw [isCell_M hp hm]; exact bI_01 _
      have no : crs g k = false → WX mi_M_crosses 4 Q 5 [some (.ref 37), some (.ref 46), some (.int (nI 16)), some (.int (nI (cntB (crs g) k))), some (.int (nI k + 1)), none] [] M := by
        intro h
        have e : cntB (crs g) (k + 1) = cntB (crs g) k := by show cntB (crs g) k + t1 (crs g) k = _; unfold t1; rw [h]; rfl
        rw [e, show nI (k + 1) = nI k + 1 from (nI_1 k).symm] at ih
        exact ih
      by_cases hc : (thr p k = true ∧ k % 4 ≠ 3 ∧ k < 12) ∧ thr p (k + 5) = true
      · obtain ⟨⟨ht, h3, h12⟩, h5⟩ := hc
        have f2 : ¬ z_M_isThere_37 M (nI k) = 0 := by rw [isThere_M hp hm hk, ht]; decide
        have exy : rem (nI k) 4 + 1 = nI ((k + 5) % 4) ∧ nI k / 4 + 1 = nI ((k + 5) / 4) := by
          have : ∀ k, k < 12 → k % 4 ≠ 3 → (rem (nI k) 4 + 1 = nI ((k + 5) % 4) ∧ nI k / 4 + 1 = nI ((k + 5) / 4)) := by decide +kernel
          exact this k h12 h3
        have f3 : ¬ z_M_isCell_37 M (rem (nI k) 4 + 1) (nI k / 4 + 1) = 0 := by rw [exy.1, exy.2, isCell_M hp hm, okc_thr (by omega), h5]; decide
        have e1 : nI k + 1 = nI (k + 1) := nI_1 k
        have e4 : nI k + 4 = nI (k + 4) := nI_add k 4
        have e5 : (nI k + 4) + 1 = nI (k + 5) := by rw [e4, nI_1]
        have v0 : vp_in (nI 16 + nI k) 1257 := by rw [nI_add]; exact vp_in_nI (by omega) (by decide)
        have v1 : vp_in (nI 16 + (nI k + 1)) 1257 := by rw [e1, nI_add]; exact vp_in_nI (by omega) (by decide)
        have v4 : vp_in (nI 16 + (nI k + 4)) 1257 := by rw [e4, nI_add]; exact vp_in_nI (by omega) (by decide)
        have v5 : vp_in (nI 16 + ((nI k + 4) + 1)) 1257 := by rw [e5, nI_add]; exact vp_in_nI (by omega) (by decide)
        have q0 : z_M_part_46 M (nI 16) (nI k) (nI k + 1) = bI (prt g k (k + 1)) := by rw [e1]; exact part_46 hb hs (by omega) (by omega)
        have q1 : z_M_part_46 M (nI 16) (nI k) (nI k + 4) = bI (prt g k (k + 4)) := by rw [e4]; exact part_46 hb hs (by omega) (by omega)
        have q2 : z_M_part_46 M (nI 16) (nI k) ((nI k + 4) + 1) = bI (prt g k (k + 5)) := by rw [e5]; exact part_46 hb hs (by omega) (by omega)
        have q3 : z_M_part_46 M (nI 16) (nI k + 1) (nI k + 4) = bI (prt g (k + 1) (k + 4)) := by rw [e1, e4]; exact part_46 hb hs (by omega) (by omega)
        have q4 : z_M_part_46 M (nI 16) (nI k + 1) ((nI k + 4) + 1) = bI (prt g (k + 1) (k + 5)) := by rw [e5, e1]; exact part_46 hb hs (by omega) (by omega)
        have q5 : z_M_part_46 M (nI 16) (nI k + 4) ((nI k + 4) + 1) = bI (prt g (k + 4) (k + 5)) := by rw [e5, e4]; exact part_46 hb hs (by omega) (by omega)
        cases r0 : prt g k (k + 1) with
        | false =>
          have g0 : z_M_part_46 M (nI 16) (nI k) (nI k + 1) = 0 := by rw [q0, r0]; rfl
          have K := no (by unfold crs; rw [r0]; simp)
          rw [show nI (cntB (crs g) k) = nI (cntB (crs g) k) + 0 from (Int32.add_zero _).symm] at K
          refine sg_M_crosses_37_46_5 M _ _ _ ?_ ?_ ?_ ?_ ?_ ?_ ?_ ?_ ?_ ?_ ?_ ?_ ?_ ?_ ?_ ?_ ?_ ?_ ?_ ?_ ?_ ?_ ?_ ?_ ?_ ?_ ?_ ?_ ?_ ?_ ?_ ?_ ?_ ?_ ?_
          all_goals intros
          all_goals first
            | with_reducible exact absurd (by assumption) f1
            | with_reducible exact absurd (by assumption) f2
            | with_reducible exact absurd (by assumption) f3
            | with_reducible exact absurd g0 (by assumption)
            | with_reducible exact v0
            | with_reducible exact v1
            | with_reducible exact v4
            | with_reducible exact v5
            | with_reducible exact hcell _ _
            | with_reducible exact K
        | true =>
          have g0 : ¬ z_M_part_46 M (nI 16) (nI k) (nI k + 1) = 0 := by rw [q0, r0]; decide
          cases r1 : prt g k (k + 4) with
          | false =>
            have g1 : z_M_part_46 M (nI 16) (nI k) (nI k + 4) = 0 := by rw [q1, r1]; rfl
            have K := no (by unfold crs; rw [r1]; simp)
            rw [show nI (cntB (crs g) k) = nI (cntB (crs g) k) + 0 from (Int32.add_zero _).symm] at K
            refine sg_M_crosses_37_46_5 M _ _ _ ?_ ?_ ?_ ?_ ?_ ?_ ?_ ?_ ?_ ?_ ?_ ?_ ?_ ?_ ?_ ?_ ?_ ?_ ?_ ?_ ?_ ?_ ?_ ?_ ?_ ?_ ?_ ?_ ?_ ?_ ?_ ?_ ?_ ?_ ?_
            all_goals intros
            all_goals first
              | with_reducible exact absurd (by assumption) f1
              | with_reducible exact absurd (by assumption) f2
              | with_reducible exact absurd (by assumption) f3
              | with_reducible exact absurd (by assumption) g0
              | with_reducible exact absurd g1 (by assumption)
              | with_reducible exact v0
              | with_reducible exact v1
              | with_reducible exact v4
              | with_reducible exact v5
              | with_reducible exact hcell _ _
              | with_reducible exact K
          | true =>
            have g1 : ¬ z_M_part_46 M (nI 16) (nI k) (nI k + 4) = 0 := by rw [q1, r1]; decide
            cases r2 : prt g k (k + 5) with
            | false =>
              have g2 : z_M_part_46 M (nI 16) (nI k) ((nI k + 4) + 1) = 0 := by rw [q2, r2]; rfl
              have K := no (by unfold crs; rw [r2]; simp)
              rw [show nI (cntB (crs g) k) = nI (cntB (crs g) k) + 0 from (Int32.add_zero _).symm] at K
              refine sg_M_crosses_37_46_5 M _ _ _ ?_ ?_ ?_ ?_ ?_ ?_ ?_ ?_ ?_ ?_ ?_ ?_ ?_ ?_ ?_ ?_ ?_ ?_ ?_ ?_ ?_ ?_ ?_ ?_ ?_ ?_ ?_ ?_ ?_ ?_ ?_ ?_ ?_ ?_ ?_
              all_goals intros
              all_goals first
                | with_reducible exact absurd (by assumption) f1
                | with_reducible exact absurd (by assumption) f2
                | with_reducible exact absurd (by assumption) f3
                | with_reducible exact absurd (by assumption) g0
                | with_reducible exact absurd (by assumption) g1
                | with_reducible exact absurd g2 (by assumption)
                | with_reducible exact v0
                | with_reducible exact v1
                | with_reducible exact v4
                | with_reducible exact v5
                | with_reducible exact hcell _ _
                | with_reducible exact K
            | true =>
              have g2 : ¬ z_M_part_46 M (nI 16) (nI k) ((nI k + 4) + 1) = 0 := by rw [q2, r2]; decide
              cases r3 : prt g (k + 1) (k + 4) with
              | false =>
                have g3 : z_M_part_46 M (nI 16) (nI k + 1) (nI k + 4) = 0 := by rw [q3, r3]; rfl
                have K := no (by unfold crs; rw [r3]; simp)
                rw [show nI (cntB (crs g) k) = nI (cntB (crs g) k) + 0 from (Int32.add_zero _).symm] at K
                refine sg_M_crosses_37_46_5 M _ _ _ ?_ ?_ ?_ ?_ ?_ ?_ ?_ ?_ ?_ ?_ ?_ ?_ ?_ ?_ ?_ ?_ ?_ ?_ ?_ ?_ ?_ ?_ ?_ ?_ ?_ ?_ ?_ ?_ ?_ ?_ ?_ ?_ ?_ ?_ ?_
                all_goals intros
                all_goals first
                  | with_reducible exact absurd (by assumption) f1
                  | with_reducible exact absurd (by assumption) f2
                  | with_reducible exact absurd (by assumption) f3
                  | with_reducible exact absurd (by assumption) g0
                  | with_reducible exact absurd (by assumption) g1
                  | with_reducible exact absurd (by assumption) g2
                  | with_reducible exact absurd g3 (by assumption)
                  | with_reducible exact v0
                  | with_reducible exact v1
                  | with_reducible exact v4
                  | with_reducible exact v5
                  | with_reducible exact hcell _ _
                  | with_reducible exact K
              | true =>
                have g3 : ¬ z_M_part_46 M (nI 16) (nI k + 1) (nI k + 4) = 0 := by rw [q3, r3]; decide
                cases r4 : prt g (k + 1) (k + 5) with
                | false =>
                  have g4 : z_M_part_46 M (nI 16) (nI k + 1) ((nI k + 4) + 1) = 0 := by rw [q4, r4]; rfl
                  have K := no (by unfold crs; rw [r4]; simp)
                  rw [show nI (cntB (crs g) k) = nI (cntB (crs g) k) + 0 from (Int32.add_zero _).symm] at K
                  refine sg_M_crosses_37_46_5 M _ _ _ ?_ ?_ ?_ ?_ ?_ ?_ ?_ ?_ ?_ ?_ ?_ ?_ ?_ ?_ ?_ ?_ ?_ ?_ ?_ ?_ ?_ ?_ ?_ ?_ ?_ ?_ ?_ ?_ ?_ ?_ ?_ ?_ ?_ ?_ ?_
                  all_goals intros
                  all_goals first
                    | with_reducible exact absurd (by assumption) f1
                    | with_reducible exact absurd (by assumption) f2
                    | with_reducible exact absurd (by assumption) f3
                    | with_reducible exact absurd (by assumption) g0
                    | with_reducible exact absurd (by assumption) g1
                    | with_reducible exact absurd (by assumption) g2
                    | with_reducible exact absurd (by assumption) g3
                    | with_reducible exact absurd g4 (by assumption)
                    | with_reducible exact v0
                    | with_reducible exact v1
                    | with_reducible exact v4
                    | with_reducible exact v5
                    | with_reducible exact hcell _ _
                    | with_reducible exact K
                | true =>
                  have g4 : ¬ z_M_part_46 M (nI 16) (nI k + 1) ((nI k + 4) + 1) = 0 := by rw [q4, r4]; decide
                  cases r5 : prt g (k + 4) (k + 5) with
                  | false =>
                    have g5 : z_M_part_46 M (nI 16) (nI k + 4) ((nI k + 4) + 1) = 0 := by rw [q5, r5]; rfl
                    have K := no (by unfold crs; rw [r5]; simp)
                    rw [show nI (cntB (crs g) k) = nI (cntB (crs g) k) + 0 from (Int32.add_zero _).symm] at K
                    refine sg_M_crosses_37_46_5 M _ _ _ ?_ ?_ ?_ ?_ ?_ ?_ ?_ ?_ ?_ ?_ ?_ ?_ ?_ ?_ ?_ ?_ ?_ ?_ ?_ ?_ ?_ ?_ ?_ ?_ ?_ ?_ ?_ ?_ ?_ ?_ ?_ ?_ ?_ ?_ ?_
                    all_goals intros
                    all_goals first
                      | with_reducible exact absurd (by assumption) f1
                      | with_reducible exact absurd (by assumption) f2
                      | with_reducible exact absurd (by assumption) f3
                      | with_reducible exact absurd (by assumption) g0
                      | with_reducible exact absurd (by assumption) g1
                      | with_reducible exact absurd (by assumption) g2
                      | with_reducible exact absurd (by assumption) g3
                      | with_reducible exact absurd (by assumption) g4
                      | with_reducible exact absurd g5 (by assumption)
                      | with_reducible exact v0
                      | with_reducible exact v1
                      | with_reducible exact v4
                      | with_reducible exact v5
                      | with_reducible exact hcell _ _
                      | with_reducible exact K
                  | true =>
                    have g5 : ¬ z_M_part_46 M (nI 16) (nI k + 4) ((nI k + 4) + 1) = 0 := by rw [q5, r5]; decide
                    have yes : crs g k = true := by unfold crs; rw [decide_eq_true h3, decide_eq_true h12, r0, r1, r2, r3, r4, r5]; rfl
                    have K := ih
                    rw [show cntB (crs g) (k + 1) = cntB (crs g) k + 1 by show cntB (crs g) k + t1 (crs g) k = _; unfold t1; rw [if_pos yes], show nI (k + 1) = nI k + 1 from (nI_1 k).symm, show nI (cntB (crs g) k + 1) = nI (cntB (crs g) k) + 1 from (nI_1 _).symm] at K
                    refine sg_M_crosses_37_46_5 M _ _ _ ?_ ?_ ?_ ?_ ?_ ?_ ?_ ?_ ?_ ?_ ?_ ?_ ?_ ?_ ?_ ?_ ?_ ?_ ?_ ?_ ?_ ?_ ?_ ?_ ?_ ?_ ?_ ?_ ?_ ?_ ?_ ?_ ?_ ?_ ?_
                    all_goals intros
                    all_goals first
                      | with_reducible exact absurd (by assumption) f1
                      | with_reducible exact absurd (by assumption) f2
                      | with_reducible exact absurd (by assumption) f3
                      | with_reducible exact absurd (by assumption) g0
                      | with_reducible exact absurd (by assumption) g1
                      | with_reducible exact absurd (by assumption) g2
                      | with_reducible exact absurd (by assumption) g3
                      | with_reducible exact absurd (by assumption) g4
                      | with_reducible exact absurd (by assumption) g5
                      | with_reducible exact v0
                      | with_reducible exact v1
                      | with_reducible exact v4
                      | with_reducible exact v5
                      | with_reducible exact hcell _ _
                      | with_reducible exact K
      · have K := no (by
          cases h : crs g k with
          | false => rfl
          | true =>
            unfold crs prt at h
            simp only [Bool.and_eq_true, decide_eq_true_eq] at h
            obtain ⟨⟨h3, h12⟩, hx⟩ := h
            obtain ⟨c, hc1⟩ := Option.isSome_iff_exists.mp hx.1.1.1.1.1.1.1
            obtain ⟨d, hd1⟩ := Option.isSome_iff_exists.mp hx.1.1.1.2.1.2
            exact absurd ⟨⟨layb_thr ((hg.2.1 k c hc1).2.2.2 k (hg.2.1 k c hc1).2.2.1).2.1, h3, h12⟩, layb_thr ((hg.2.1 _ d hd1).2.2.2 _ (hg.2.1 _ d hd1).2.2.1).2.1⟩ hc)
        by_cases ht : thr p k = true
        · have f2 : ¬ z_M_isThere_37 M (nI k) = 0 := by rw [isThere_M hp hm hk, ht]; decide
          have f3 : z_M_isCell_37 M (rem (nI k) 4 + 1) (nI k / 4 + 1) = 0 := by
            rw [isCell_M hp hm, bI_0]
            by_cases h3 : k % 4 ≠ 3
            · by_cases h12 : k < 12
              · have exy : rem (nI k) 4 + 1 = nI ((k + 5) % 4) ∧ nI k / 4 + 1 = nI ((k + 5) / 4) := by
                  have : ∀ k, k < 12 → k % 4 ≠ 3 → (rem (nI k) 4 + 1 = nI ((k + 5) % 4) ∧ nI k / 4 + 1 = nI ((k + 5) / 4)) := by decide +kernel
                  exact this k h12 h3
                rw [exy.1, exy.2, okc_thr (by omega)]
                cases q : thr p (k + 5) with
                | false => rfl
                | true => exact absurd ⟨⟨ht, h3, h12⟩, q⟩ hc
              · rw [b_dn' k hk h12]; exact okc_4y hp _
            · rw [b_rt' k hk h3]; exact okc_4x hp _
          refine sg_M_crosses_37_46_5 M _ _ _ ?_ ?_ ?_ ?_ ?_ ?_ ?_ ?_ ?_ ?_ ?_ ?_ ?_ ?_ ?_ ?_ ?_ ?_ ?_ ?_ ?_ ?_ ?_ ?_ ?_ ?_ ?_ ?_ ?_ ?_ ?_ ?_ ?_ ?_ ?_
          all_goals intros
          all_goals first
            | with_reducible exact absurd (by assumption) f1
            | with_reducible exact absurd (by assumption) f2
            | with_reducible exact absurd f3 (by assumption)
            | with_reducible exact hcell _ _
            | with_reducible exact K
        · have f2 : z_M_isThere_37 M (nI k) = 0 := by rw [isThere_M hp hm hk, show thr p k = false by simpa using ht]; rfl
          refine sg_M_crosses_37_46_5 M _ _ _ ?_ ?_ ?_ ?_ ?_ ?_ ?_ ?_ ?_ ?_ ?_ ?_ ?_ ?_ ?_ ?_ ?_ ?_ ?_ ?_ ?_ ?_ ?_ ?_ ?_ ?_ ?_ ?_ ?_ ?_ ?_ ?_ ?_ ?_ ?_
          all_goals intros
          all_goals first
            | with_reducible exact absurd (by assumption) f1
            | with_reducible exact absurd f2 (by assumption)
            | with_reducible exact hcell _ _
            | with_reducible exact K
  exact loop 0 (by decide)
