/-! ===== plan: both ===== -/
theorem wx_findPlan {B : Nat} {p : Pl} (hB : B ≤ 10000) (hp : WfP p) {g : Gd} {M : Mem} {Q : Option Value → Mem → Prop} (hg : WfG B p g) (hm : RMp p M) (hs : ∀ k, k < 16 → M.1 46 (16 + k) = eSl (gSl g k)) (ht : ∀ z, z < 4 → M.1 46 (32 + z) = nI (gSt g z))
    (hQ : ∀ M', M'.1 37 26 = fewI (plR p g) → (∀ k, k < 16 → M'.1 53 k = eSz ((plR p g).2 k)) → FQ M M' → Q none M') : WX mi_M_findPlan 5 Q 0 [some (.ref 37), none, none, none, none, none] [] M := by
  refine sg_M_findPlan_37_0 M ?_
  have e16 : ∀ k, (16 : Int32) + nI k = nI (16 + k) := fun k => by rw [show (16 : Int32) = nI 16 from rfl, nI_add]
  have e32 : ∀ k, (32 : Int32) + nI k = nI (32 + k) := fun k => by rw [show (32 : Int32) = nI 32 from rfl, nI_add]
  have loop2 : ∀ u, u ≤ 4 → ∀ M1 : Mem, (∀ k, k < 16 → M1.1 49 k = eSl (gSl g k)) → (∀ k, k < 16 → M1.1 53 k = -9) → (∀ z, z < u → M1.1 50 z = nI (gSt g z)) → FQ M M1 → WX mi_M_findPlan 5 Q 39 [some (.ref 37), some (.int (nI u)), none, none, none, none] [] M1 := by
    have g4 : (4 : Int32) ≤ nI 4 := by decide
    refine downN 4 (fun M1 e1 e2 e3 e4 => ?_) (fun u hu ih M1 e1 e2 e3 e4 => ?_)
    · refine sg_M_findPlan_37_39 M1 _ (fun _ => ?_) (fun c => absurd g4 c) (fun c => absurd g4 c) (fun c => absurd g4 c)
      have f1 : FQ M (wr M1 37 26 (-9)) := e4.wo26 _
      have hm1 := hm.fq f1
      refine wx_crosses_46 hp hm1 hg (fun k hk => by rw [f1.1 46 (by decide) (by decide)]; exact hs k hk) ?_
      have hc16 := cntB_le (crs g) 16
      refine sg_M_findPlan_37_81 _ _ _ (fun c => ?_) (fun c => ?_)
      · have c0 : cntB (crs g) 16 = 0 := (nI_le0 (by omega)).mp c
        have r0 : RQ g (fun _ => (0, 0)) 0 (99, fun _ => none) (wr M1 37 26 (-9)) := ⟨fun k hk => by rw [wr_ne _ (by decide)]; exact e1 k hk, fun z hz => by rw [wr_ne _ (by decide)]; exact e3 z hz, fun i hi => absurd hi (Nat.not_lt_zero i), by rw [upd_row, if_pos rfl]; rfl, fun k hk => by rw [wr_ne _ (by decide)]; exact e2 k hk⟩
        refine wx_nodeM hB hp 16 g (fun _ => (0, 0)) 0 (99, fun _ => none) _ Q (frN_le p g) (by have := frN_le p g; omega) hg hm1 (Nat.le_refl _) r0 (fun M2 r1 r2 => ?_)
        have eR : plR p g = plN p 16 g (fun _ => none) 0 (99, fun _ => none) := if_pos c0
        intro y2 y3 y4 y5
        refine ⟨fun _ => ?_, fun q => absurd q (Nat.lt_irrefl 0)⟩
        refine sg_M_findPlan_37_92 M2 _ _ (fun _ => ?_) (fun c => absurd (show nI 0 + (-1) < 0 by decide) c)
        exact hQ M2 (by rw [eR]; exact r1.2.2.2.1) (fun k hk => by rw [eR]; exact r1.2.2.2.2 k hk) (f1.trans r2)
      · have c0 : ¬ cntB (crs g) 16 = 0 := fun q => c ((nI_le0 (by omega)).mpr q)
        have eR : plR p g = (99, fun _ => none) := if_neg c0
        refine sg_M_findPlan_37_92 _ _ _ (fun _ => ?_) (fun c => absurd (show (-1 : Int32) < 0 by decide) c)
        exact hQ _ (by rw [eR, upd_row, if_pos rfl]; rfl) (fun k hk => by rw [eR, wr_ne _ (by decide)]; exact e2 k hk) f1
    · have n4 : ¬ (4 : Int32) ≤ nI u := Int32.not_le.mpr (nI_lt (b := 4) hu (by decide))
      refine sg_M_findPlan_37_39 M1 _ (fun c => absurd c n4) (fun _ => by rw [e32]; exact vp_in_nI (by omega) (by decide)) (fun _ => vp_in_nI hu (by decide)) (fun _ => ?_)
      rw [nI_1, e32, nI_clamp (show u < 2 ^ 31 by omega), nI_clamp (show 32 + u < 2 ^ 31 by omega), e4.1 46 (by decide) (by decide), ht u hu]
      refine ih _ (fun k hk => by rw [wr_ne _ (by decide)]; exact e1 k hk) (fun k hk => by rw [wr_ne _ (by decide)]; exact e2 k hk) (fun z hz => ?_) (e4.wo ⟨by decide, by decide⟩ _ _)
      rw [upd_row]
      by_cases q : z = u
      · rw [if_pos q, q]
      · rw [if_neg q]; exact e3 z (by omega)
  have loop1 : ∀ u, u ≤ 16 → ∀ M1 : Mem, (∀ k, k < u → M1.1 49 k = eSl (gSl g k)) → (∀ k, k < u → M1.1 53 k = -9) → FQ M M1 → WX mi_M_findPlan 5 Q 2 [some (.ref 37), some (.int (nI u)), none, none, none, none] [] M1 := by
    refine downN 16 (fun M1 e1 e2 e4 => ?_) (fun u hu ih M1 e1 e2 e4 => ?_)
    · refine sg_M_findPlan_37_2 M1 _ (fun _ => ?_) (fun c => absurd ge16 c) (fun c => absurd ge16 c) (fun c => absurd ge16 c)
      exact loop2 0 (by decide) M1 e1 e2 (fun z hz => absurd hz (Nat.not_lt_zero z)) e4
    · refine sg_M_findPlan_37_2 M1 _ (fun c => absurd c (lt16 hu)) (fun _ => by rw [e16]; exact vp_in_nI (by omega) (by decide)) (fun _ => vp_in_nI hu (by decide)) (fun _ => ?_)
      rw [nI_1, e16, nI_clamp (show u < 2 ^ 31 by omega), nI_clamp (show 16 + u < 2 ^ 31 by omega), e4.1 46 (by decide) (by decide), hs u hu]
      refine ih _ (fun k hk => ?_) (fun k hk => ?_) ((e4.wo ⟨by decide, by decide⟩ _ _).wo ⟨by decide, by decide⟩ _ _)
      · rw [wr_ne _ (by decide), upd_row]
        by_cases q : k = u
        · rw [if_pos q, q]
        · rw [if_neg q]; exact e1 k (by omega)
      · rw [upd_row]
        by_cases q : k = u
        · rw [if_pos q]
        · rw [if_neg q, wr_ne _ (by decide)]; exact e2 k (by omega)
  exact loop1 0 (by decide) M (fun k hk => absurd hk (Nat.not_lt_zero k)) (fun k hk => absurd hk (Nat.not_lt_zero k)) (FQ.refl M)
theorem agr_ansi {a b : Mi} {da db : Nat} {as : List Value}
    (h : ∀ (i : Nat) (s : Sg) (M : Mem), i ≤ 2560 → WfS (20 + i) s → RC s M → RM s M → ∃ (r : Int32),
      (∀ Q : Option Value → Mem → Prop, (∀ M1, (∀ q, q < 37 → ¬ scrC q → M1.1 q = M.1 q) → (∀ q, 37 ≤ q → M1.1 q = M.1 q) → M1.2 = M.2 → Q (some (.int r)) M1) → WX a da Q 0 (entL a.2.2.1 (.ref 0 :: as)) [] M) ∧
      (∀ (M1 : Mem) (Q : Option Value → Mem → Prop), RM s M1 → (∀ M2, RM s M2 → FrM M1 M2 → Q (some (.int r)) M2) → WX b db Q 0 (entL b.2.2.1 (.ref 37 :: as)) [] M1)) : Agr Inv a b da db as := by
  refine agr_ofi (fun i s M hi hw hc hm => ?_)
  obtain ⟨r, h1, h2⟩ := h i s M hi hw hc hm
  exact ⟨r, s, hw.up (by omega), fun Q hQ => h1 Q (fun M1 e1 e2 e3 => hQ M1 (hc.of_eq e1 (by rw [e3])) ⟨e2, by rw [e3]⟩), h2⟩
def ansP (a : Acc) (x : Int32) : Int32 := if x = -1 then fewI a else if a.1 = 99 then -9 else eSz (a.2 x.toNatClampNeg)
theorem a_plan (x : Int32) : Agr Inv mi_C_plan mi_M_plan 26 6 [.int x] := by
  refine agr_ansi (fun i s M hi hw hc hm => ?_)
  obtain ⟨t, p, gh, im, sn, tr⟩ := s
  have hp : WfP p := hw.2.1
  have hg : WfG (20 + i) p gh.1 := hw.2.2.1.1
  have hcg : RCg 9 p gh M := hc.2.2.1
  have hB : 20 + i ≤ 10000 := by omega
  have hR := plR_le p gh.1
  have srch : ∀ {Q : Option Value → Mem → Prop}, (∀ M', M'.1 33 0 = fewI (plR p gh.1) → (∀ k, k < 16 → M'.1 34 k = eSz ((plR p gh.1).2 k)) → (∀ q, q < 37 → ¬ scrC q → M'.1 q = M.1 q) → (∀ q, 37 ≤ q → M'.1 q = M.1 q) → M'.2 = M.2 → Q none M') → WX mi_P_search 25 Q 0 [some (.ref 33), some (.ref 6), some (.ref 9), none, none, none, none] [] M := by
    intro Q h
    refine wx_searchP hB hp hg hc.2.1 hcg (fun M1 r1 r2 r3 => h M1 r1 r2 (fun q a b => ?_) (fun q a => r3.1 q (by omega) (by omega) (by omega) (by omega)) r3.2)
    unfold scrC at b
    exact r3.1 q (by omega) (by omega) (by omega) (by omega)
  have find : ∀ {M1 : Mem} {Q : Option Value → Mem → Prop}, RM (t, p, gh, im, sn, tr) M1 → (∀ M', M'.1 37 26 = fewI (plR p gh.1) → (∀ k, k < 16 → M'.1 53 k = eSz ((plR p gh.1).2 k)) → FQ M1 M' → Q none M') → WX mi_M_findPlan 5 Q 0 [some (.ref 37), none, none, none, none, none] [] M1 := by
    intro M1 Q hm1 h
    refine wx_findPlan hB hp hg hm1.2.1 (fun k hk => hm1.sl hk) (fun z hz => ?_) h
    have := hm1.2.2.1.1.2.2.1 z hz
    rw [Nat.zero_add] at this
    exact this
  by_cases e1 : x = -1
  · subst e1
    have n0 : z_C_isNumber (-1) = 0 := by decide
    refine ⟨fewI (plR p gh.1), fun Q hQ => ?_, fun M1 Q hm1 hQ => ?_⟩
    · refine sg_C_plan_0_0 M _ (fun _ => ?_) (fun c => absurd rfl c) (fun c => absurd rfl c)
      refine srch (fun M1 r1 r2 r3 r4 r5 => ?_)
      have fin := hQ M1 r3 r4 r5
      refine sg_C_plan_0_43 M1 _ (fun _ _ => by rw [r1]; exact fin) (fun _ c => absurd n0 c) (fun _ c => absurd n0 c) (fun c => ?_)
      rw [r1] at c
      rw [← c]
      exact fin
    · refine sg_M_plan_37_0 M1 _ (fun _ => ?_) (fun c => absurd rfl c) (fun c => absurd rfl c) (fun c => absurd rfl c) (fun c => absurd rfl c)
      refine find hm1 (fun M2 r1 r2 r3 => ?_)
      have fin := hQ M2 (hm1.fq r3) r3.fr
      exact sg_M_plan_37_29 M2 _ (fun _ => by rw [r1]; exact fin) (fun c => absurd rfl c) (fun c => absurd rfl c) (fun c => absurd rfl c)
  · by_cases hx : 0 ≤ x ∧ x ≤ 15
    · obtain ⟨k, hk, rfl⟩ := nI_of2 (n := 15) (by decide) (Int32.not_lt.mpr hx.1) hx.2
      have hk16 : k < 16 := by omega
      have n1 : ¬ z_C_isNumber (nI k) = 0 := by rw [num_1 k hk16]; decide
      have m1 : ¬ z_M_in (nI k) 0 15 = 0 := by
        rw [in_bI, decide_eq_true hx.1, decide_eq_true hx.2]
        decide
      cases ht : thr p k with
      | false =>
        refine ⟨-1, fun Q hQ => ?_, fun M1 Q hm1 hQ => ?_⟩
        · refine sg_C_plan_0_0 M _ (fun c => absurd c e1) (fun _ c => absurd c n1) (fun _ _ => ?_)
          refine wx_cells hp hc.2.1 ?_
          exact sg_C_plan_0_19 M _ _ (fun c => absurd (by rw [holds_sI hk16, ht]; rfl) c) (fun _ => hQ M (fun _ _ _ => rfl) (fun _ _ => rfl) rfl)
        · exact sg_M_plan_37_0 M1 _ (fun c => absurd c e1) (fun _ c => absurd c m1) (fun _ _ => by rw [isCell_M hp hm1.2.1]; exact bI_01 _) (fun _ _ c => absurd (by rw [isThere_M hp hm1.2.1 hk16, ht]; rfl) c) (fun _ _ _ => hQ M1 hm1 (FrM.refl M1))
      | true =>
        refine ⟨if (plR p gh.1).1 = 99 then -9 else eSz ((plR p gh.1).2 k), fun Q hQ => ?_, fun M1 Q hm1 hQ => ?_⟩
        · refine sg_C_plan_0_0 M _ (fun c => absurd c e1) (fun _ c => absurd c n1) (fun _ _ => ?_)
          refine wx_cells hp hc.2.1 ?_
          refine sg_C_plan_0_19 M _ _ (fun _ => ?_) (fun c => absurd c (by rw [holds_sI hk16, ht]; decide))
          refine srch (fun M1 r1 r2 r3 r4 r5 => ?_)
          have fin := hQ M1 r3 r4 r5
          refine sg_C_plan_0_43 M1 _ (fun _ c => absurd c n1) (fun _ _ => vp_in_nI hk16 (by decide)) (fun c _ => ?_) (fun c => ?_)
          · rw [r1, few_9 hR] at c
            rw [if_neg c] at fin
            rw [nI_clamp (by omega), r2 k hk16]
            exact fin
          · rw [r1, few_9 hR] at c
            rw [if_pos c] at fin
            exact fin
        · refine sg_M_plan_37_0 M1 _ (fun c => absurd c e1) (fun _ c => absurd c m1) (fun _ _ => by rw [isCell_M hp hm1.2.1]; exact bI_01 _) (fun _ _ _ => ?_) (fun _ _ c => absurd c (by rw [isThere_M hp hm1.2.1 hk16, ht]; decide))
          refine find hm1 (fun M2 r1 r2 r3 => ?_)
          have fin := hQ M2 (hm1.fq r3) r3.fr
          refine sg_M_plan_37_29 M2 _ (fun c => absurd c e1) (fun _ _ => vp_in_nI hk16 (by decide)) (fun _ c => ?_) (fun _ c => ?_)
          · rw [r1, few_9 hR] at c
            rw [if_neg c] at fin
            rw [nI_clamp (by omega), r2 k hk16]
            exact fin
          · have c' := c
            rw [r1, few_9 hR] at c'
            rw [if_pos c'] at fin
            rw [c]
            exact fin
    · have n0 : z_C_isNumber x = 0 := by
        unfold z_C_isNumber
        by_cases h : x < 0
        · rw [if_pos h]
        · rw [if_neg h, if_pos]
          refine Decidable.byContradiction (fun q => hx ⟨Int32.not_lt.mp h, ?_⟩)
          rw [Int32.not_le, Int32.lt_iff_toInt_lt, show (16 : Int32).toInt = 16 from rfl] at q
          rw [Int32.le_iff_toInt_le, show (15 : Int32).toInt = 15 from rfl]
          omega
      have m0 : z_M_in x 0 15 = 0 := by
        rw [in_bI, bI_0]
        cases q : (decide ((0 : Int32) ≤ x) && decide (x ≤ 15)) with
        | false => rfl
        | true =>
          simp only [Bool.and_eq_true, decide_eq_true_eq] at q
          exact absurd q hx
      refine ⟨-1, fun Q hQ => ?_, fun M1 Q hm1 hQ => ?_⟩
      · exact sg_C_plan_0_0 M _ (fun c => absurd c e1) (fun _ _ => hQ M (fun _ _ _ => rfl) (fun _ _ => rfl) rfl) (fun _ c => absurd n0 c)
      · exact sg_M_plan_37_0 M1 _ (fun c => absurd c e1) (fun _ _ => hQ M1 hm1 (FrM.refl M1)) (fun _ c => absurd m0 c) (fun _ c => absurd m0 c) (fun _ c => absurd m0 c)
