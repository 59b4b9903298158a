theorem k_plan {B : Nat} {s : Sg} (hi : B ≤ 2580) (x : Int32) (hw : WfS B s) : ∃ (r : Int32), K1 mi_C_plan 26 [.int x] s (.int r) := by
  obtain ⟨t, p, gh, im, sn, tr⟩ := s
  have hp : WfP p := hw.2.1
  have hg : WfG (B) p gh.1 := hw.2.2.1.1
  have hB : B ≤ 10000 := by omega
  have hR := plR_le p gh.1
  by_cases e1 : x = -1
  · subst e1
    have n0 : z_C_isNumber (-1) = 0 := by decide
    refine ⟨fewI (plR p gh.1), fun M Q hc hQ => ?_⟩
    · have hcg : RCg 9 p gh M := hc.2.2.1
      have srch : ∀ {Q : Option Value → Mem → Prop}, (∀ M', M'.1 33 0 = fewI (plR p gh.1) → (∀ k, k < 16 → M'.1 34 k = eSz ((plR p gh.1).2 k)) → (∀ q, q < 37 → ¬ scrC q → M'.1 q = M.1 q) → (∀ q, 37 ≤ q → M'.1 q = M.1 q) → M'.2 = M.2 → Q none M') → WX mi_P_search 25 Q 0 [some (.ref 33), some (.ref 6), some (.ref 9), none, none, none, none] [] M := by
        intro Q h
        refine wx_searchP hB hp hg hc.2.1 hcg (fun M1 r1 r2 r3 => h M1 r1 r2 (fun q a b => ?_) (fun q a => r3.1 q (by omega) (by omega) (by omega) (by omega)) r3.2)
        unfold scrC at b
        exact r3.1 q (by omega) (by omega) (by omega) (by omega)
      refine sg_C_plan_0_0 M _ (fun _ => ?_) (fun c => absurd rfl c) (fun c => absurd rfl c)
      refine srch (fun M1 r1 r2 r3 r4 r5 => ?_)
      have fin := hQ M1 r3 r4 r5
      refine sg_C_plan_0_43 M1 _ (fun _ _ => by rw [r1]; exact fin) (fun _ c => absurd n0 c) (fun _ c => absurd n0 c) (fun c => ?_)
      rw [r1] at c
      rw [← c]
      exact fin
  · by_cases hx : 0 ≤ x ∧ x ≤ 15
    · obtain ⟨k, hk, rfl⟩ := nI_of2 (n := 15) (by decide) (Int32.not_lt.mpr hx.1) hx.2
      have hk16 : k < 16 := by omega
      have n1 : ¬ z_C_isNumber (nI k) = 0 := by rw [num_1 k hk16]; decide
      cases ht : thr p k with
      | false =>
        refine ⟨-1, fun M Q hc hQ => ?_⟩
        · have hcg : RCg 9 p gh M := hc.2.2.1
          have srch : ∀ {Q : Option Value → Mem → Prop}, (∀ M', M'.1 33 0 = fewI (plR p gh.1) → (∀ k, k < 16 → M'.1 34 k = eSz ((plR p gh.1).2 k)) → (∀ q, q < 37 → ¬ scrC q → M'.1 q = M.1 q) → (∀ q, 37 ≤ q → M'.1 q = M.1 q) → M'.2 = M.2 → Q none M') → WX mi_P_search 25 Q 0 [some (.ref 33), some (.ref 6), some (.ref 9), none, none, none, none] [] M := by
            intro Q h
            refine wx_searchP hB hp hg hc.2.1 hcg (fun M1 r1 r2 r3 => h M1 r1 r2 (fun q a b => ?_) (fun q a => r3.1 q (by omega) (by omega) (by omega) (by omega)) r3.2)
            unfold scrC at b
            exact r3.1 q (by omega) (by omega) (by omega) (by omega)
          refine sg_C_plan_0_0 M _ (fun c => absurd c e1) (fun _ c => absurd c n1) (fun _ _ => ?_)
          refine wx_cells hp hc.2.1 ?_
          exact sg_C_plan_0_19 M _ _ (fun c => absurd (by rw [holds_sI hk16, ht]; rfl) c) (fun _ => hQ M (fun _ _ _ => rfl) (fun _ _ => rfl) rfl)
      | true =>
        refine ⟨if (plR p gh.1).1 = 99 then -9 else eSz ((plR p gh.1).2 k), fun M Q hc hQ => ?_⟩
        · have hcg : RCg 9 p gh M := hc.2.2.1
          have srch : ∀ {Q : Option Value → Mem → Prop}, (∀ M', M'.1 33 0 = fewI (plR p gh.1) → (∀ k, k < 16 → M'.1 34 k = eSz ((plR p gh.1).2 k)) → (∀ q, q < 37 → ¬ scrC q → M'.1 q = M.1 q) → (∀ q, 37 ≤ q → M'.1 q = M.1 q) → M'.2 = M.2 → Q none M') → WX mi_P_search 25 Q 0 [some (.ref 33), some (.ref 6), some (.ref 9), none, none, none, none] [] M := by
            intro Q h
            refine wx_searchP hB hp hg hc.2.1 hcg (fun M1 r1 r2 r3 => h M1 r1 r2 (fun q a b => ?_) (fun q a => r3.1 q (by omega) (by omega) (by omega) (by omega)) r3.2)
            unfold scrC at b
            exact r3.1 q (by omega) (by omega) (by omega) (by omega)
          refine sg_C_plan_0_0 M _ (fun c => absurd c e1) (fun _ c => absurd c n1) (fun _ _ => ?_)
          refine wx_cells hp hc.2.1 ?_
          refine sg_C_plan_0_19 M _ _ (fun _ => ?_) (fun c => absurd c (by rw [holds_sI hk16, ht]; decide))
          refine srch (fun M1 r1 r2 r3 r4 r5 => ?_)
          have fin := hQ M1 r3 r4 r5
          refine sg_C_plan_0_43 M1 _ (fun _ c => absurd c n1) (fun _ _ => vp_in_nI hk16 (by decide)) (fun c _ => ?_) (fun c => ?_)
          · rw [r1, few_9 hR] at c
            rw [if_neg c] at fin
            rw [nI_clamp (by omega), r2 k hk16]
            exact fin
          · rw [r1, few_9 hR] at c
            rw [if_pos c] at fin
            exact fin
    · have n0 : z_C_isNumber x = 0 := by
        unfold z_C_isNumber
        by_cases h : x < 0
        · rw [if_pos h]
        · rw [if_neg h, if_pos]
          refine Decidable.byContradiction (fun q => hx ⟨Int32.not_lt.mp h, ?_⟩)
          rw [Int32.not_le, Int32.lt_iff_toInt_lt, show (16 : Int32).toInt = 16 from rfl] at q
          rw [Int32.le_iff_toInt_le, show (15 : Int32).toInt = 15 from rfl]
          omega
      refine ⟨-1, fun M Q hc hQ => ?_⟩
      · have hcg : RCg 9 p gh M := hc.2.2.1
        have srch : ∀ {Q : Option Value → Mem → Prop}, (∀ M', M'.1 33 0 = fewI (plR p gh.1) → (∀ k, k < 16 → M'.1 34 k = eSz ((plR p gh.1).2 k)) → (∀ q, q < 37 → ¬ scrC q → M'.1 q = M.1 q) → (∀ q, 37 ≤ q → M'.1 q = M.1 q) → M'.2 = M.2 → Q none M') → WX mi_P_search 25 Q 0 [some (.ref 33), some (.ref 6), some (.ref 9), none, none, none, none] [] M := by
          intro Q h
          refine wx_searchP hB hp hg hc.2.1 hcg (fun M1 r1 r2 r3 => h M1 r1 r2 (fun q a b => ?_) (fun q a => r3.1 q (by omega) (by omega) (by omega) (by omega)) r3.2)
          unfold scrC at b
          exact r3.1 q (by omega) (by omega) (by omega) (by omega)
        exact sg_C_plan_0_0 M _ (fun c => absurd c e1) (fun _ _ => hQ M (fun _ _ _ => rfl) (fun _ _ => rfl) rfl) (fun _ c => absurd n0 c)
