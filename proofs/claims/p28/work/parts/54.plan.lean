/-! ===== plan: the class's search, from its beginning ===== -/
noncomputable def plR (p : Pl) (g : Gd) : Acc := if cntB (crs g) 16 = 0 then plN p 16 g (fun _ => none) 0 (99, fun _ => none) else (99, fun _ => none)
def fewI (a : Acc) : Int32 := if a.1 = 99 then -9 else nI a.1
theorem plR_le (p : Pl) (g : Gd) : (plR p g).1 ≤ 99 := by
  unfold plR
  split
  · exact pl_bd _ _ _ _ _
  · exact Nat.le_refl _
theorem wx_searchP {B : Nat} {p : Pl} {gh : Gh} {M : Mem} {Q : Option Value → Mem → Prop} (hB : B ≤ 10000) (hp : WfP p) (hg : WfG B p gh.1) (hc : RCp p M) (h : RCg 9 p gh M) (hQ : ∀ M', M'.1 33 0 = fewI (plR p gh.1) → (∀ k, k < 16 → M'.1 34 k = eSz ((plR p gh.1).2 k)) → FP M M' → Q none M') : WX mi_P_search 25 Q 0 [some (.ref 33), some (.ref 6), some (.ref 9), none, none, none, none] [] M := by
  refine sg_P_search_33_6_9_0 M ?_
  refine wx_covered hg h ?_
  refine sg_P_search_33_6_9_4 M _ ?_
  refine wx_joined_2 hg h ?_
  refine sg_P_search_33_6_9_12 M _ _ ?_
  refine wx_joined_3 hg h ?_
  refine sg_P_search_33_6_9_21 M _ _ _ ?_
  refine wx_layable hp hc ?_
  refine sg_P_search_33_6_9_28 M _ _ _ _ ?_
  have fin : ∀ M1 : Mem, RP p gh.1 (fun _ => none) (plR p gh.1) M1 → FP M M1 → (¬ M1.1 33 5 = 99 → Q none (wr M1 33 0 (M1.1 33 5))) ∧ (M1.1 33 5 = 99 → Q none (wr M1 33 0 (-9))) := by
    intro M1 r1 r2
    have hle := plR_le p gh.1
    have e9 : M1.1 33 5 = 99 ↔ (plR p gh.1).1 = 99 := by
      rw [r1.2.2.1]
      exact nI_eq (b := 99) (by omega) (by decide)
    refine ⟨fun c => hQ _ ?_ (fun k hk => by rw [wr_ne _ (by decide)]; exact r1.2.2.2.1 k hk) (r2.wr33 _ _), fun c => hQ _ ?_ (fun k hk => by rw [wr_ne _ (by decide)]; exact r1.2.2.2.1 k hk) (r2.wr33 _ _)⟩
    · rw [upd_row, if_pos rfl]
      unfold fewI
      rw [if_neg (fun q => c (e9.mpr q))]
      exact r1.2.2.1
    · rw [upd_row, if_pos rfl]
      unfold fewI
      rw [if_pos (e9.mp c)]
  have loop2 : ∀ u, u ≤ 16 → ∀ M1 : Mem, (∀ z, z < 4 → M1.1 36 z = nI (gSt gh.1 z)) → (∀ k, k < u → M1.1 35 k = -9) → M1.1 33 5 = 99 → (∀ k, k < u → M1.1 34 k = -9) → M1.1 33 4 = sI (layb p) → FP M M1 →
      WX mi_P_search 25 Q 69 [some (.ref 33), some (.ref 6), some (.ref 9), some (.int (sI (fun k => (gSl gh.1 k).isSome))), some (.int (sI (jnT 2 gh.1 16))), some (.int (sI (jnT 3 gh.1 16))), some (.int (nI u))] [] M1 := by
    refine downN 16 (fun M1 e1 e2 e3 e4 e5 e6 => ?_) (fun u hu ih M1 e1 e2 e3 e4 e5 e6 => ?_)
    · have r0 : RP p gh.1 (fun _ => none) (99, fun _ => none) M1 := ⟨e1, fun k hk => e2 k hk, e3, fun k hk => e4 k hk, e5⟩
      have ec : z_C_crossPoints (sI (fun k => (gSl gh.1 k).isSome)) (sI (jnT 2 gh.1 16)) (sI (jnT 3 gh.1 16)) = 0 ↔ cntB (crs gh.1) 16 = 0 := by rw [cross_C hg, sI_zero, ← cnt_0 16]
      refine sg_P_search_69d M1 _ _ _ _ (fun _ c => ?_) (fun _ c => ?_) (fun _ c => ?_) (fun c => absurd ge16 c) (fun c => absurd ge16 c)
      · rw [ec] at c
        exact (fin M1 (by unfold plR; rw [if_neg c]; exact r0) e6).1
      · rw [ec] at c
        exact (fin M1 (by unfold plR; rw [if_neg c]; exact r0) e6).2
      · rw [ec] at c
        refine wx_layRest hB 16 gh.1 (fun _ => none) 0 (99, fun _ => none) M1 _ (frN_le _ _) (by have := frN_le p gh.1; omega) hg c (fun _ _ => rfl) (Nat.le_refl _) r0 (fun M2 r1 r2 => ?_)
        have f := fin M2 (by unfold plR; rw [if_pos c]; exact r1) (e6.trans r2)
        exact sg_P_search_33_6_9_121 M2 _ _ _ _ f.1 f.2
    · refine sg_P_search_69d M1 _ _ _ _ (fun c => absurd c (lt16 hu)) (fun c => absurd c (lt16 hu)) (fun c => absurd c (lt16 hu)) (fun _ => vp_in_nI hu (by decide)) (fun _ => ?_)
      rw [nI_1, nI_clamp (by omega)]
      refine ih _ (fun z hz => by rw [wr_ne _ (by decide), wr_ne _ (by decide)]; exact e1 z hz) (fun k hk => ?_) (by rw [wr_ne _ (by decide), wr_ne _ (by decide)]; exact e3) (fun k hk => ?_) (by rw [wr_ne _ (by decide), wr_ne _ (by decide)]; exact e5) ((e6.wr34 _ _).wr35 _ _)
      · rw [upd_row]
        by_cases q : k = u
        · rw [if_pos q]
        · rw [if_neg q, wr_ne _ (by decide)]; exact e2 k (by omega)
      · rw [wr_ne _ (by decide), upd_row]
        by_cases q : k = u
        · rw [if_pos q]
        · rw [if_neg q]; exact e4 k (by omega)
  have loop1 : ∀ u, u ≤ 4 → ∀ M1 : Mem, (∀ z, z < u → M1.1 36 z = nI (gSt gh.1 z)) → M1.1 33 5 = 99 → M1.1 33 4 = sI (layb p) → FP M M1 →
      WX mi_P_search 25 Q 40 [some (.ref 33), some (.ref 6), some (.ref 9), some (.int (sI (fun k => (gSl gh.1 k).isSome))), some (.int (sI (jnT 2 gh.1 16))), some (.int (sI (jnT 3 gh.1 16))), some (.int (nI u))] [] M1 := by
    have g4 : (4 : Int32) ≤ nI 4 := by decide
    refine downN 4 (fun M1 e1 e3 e5 e6 => ?_) (fun u hu ih M1 e1 e3 e5 e6 => ?_)
    · refine sg_P_search_33_6_9_40 M1 _ _ _ _ (fun _ => ?_) (fun c => absurd g4 c) (fun c => absurd g4 c)
      exact loop2 0 (by decide) M1 e1 (fun k hk => absurd hk (Nat.not_lt_zero k)) e3 (fun k hk => absurd hk (Nat.not_lt_zero k)) e5 e6
    · have n4 : ¬ (4 : Int32) ≤ nI u := Int32.not_le.mpr (nI_lt (b := 4) hu (by decide))
      refine sg_P_search_33_6_9_40 M1 _ _ _ _ (fun c => absurd c n4) (fun _ => vp_in_nI hu (by decide)) (fun _ => ?_)
      rw [nI_1, nI_clamp (by omega)]
      refine ih _ (fun z hz => ?_) (by rw [wr_ne _ (by decide)]; exact e3) (by rw [wr_ne _ (by decide)]; exact e5) (e6.wr36 _ _)
      rw [upd_row]
      by_cases q : z = u
      · rw [if_pos q, e6.1 12 (by decide) (by decide) (by decide) (by decide), q]
        exact h.2.2.1 u hu
      · rw [if_neg q]; exact e1 z (by omega)
  refine loop1 0 (by decide) _ (fun z hz => absurd hz (Nat.not_lt_zero z)) ?_ ?_ (((FP.refl M).wr33 _ _).wr33 _ _)
  · rw [upd_row, if_pos rfl]
  · rw [upd_row, if_neg (by decide), upd_row, if_pos rfl]
