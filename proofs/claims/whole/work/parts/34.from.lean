/-! ===== puddles, from; printed by wip/gen/p34.py ===== -/
theorem bes_iff {f : Nat → Bool} {k : Nat} : bes f k = true ↔ ∃ w b, w < 4 ∧ nb k w = some b ∧ f b = true := by
  unfold bes
  simp only [Bool.or_eq_true, Bool.and_eq_true, decide_eq_true_eq]
  constructor
  · rintro (((h | h) | h) | h)
    · exact ⟨0, k - 4, by decide, by show (if 4 ≤ k then some (k - 4) else none) = _; rw [if_pos h.1], h.2⟩
    · exact ⟨2, k + 4, by decide, by show (if k < 12 then some (k + 4) else none) = _; rw [if_pos h.1], h.2⟩
    · exact ⟨3, k - 1, by decide, by show (if k % 4 ≠ 0 then some (k - 1) else none) = _; rw [if_pos h.1], h.2⟩
    · exact ⟨1, k + 1, by decide, by show (if k % 4 ≠ 3 then some (k + 1) else none) = _; rw [if_pos h.1], h.2⟩
  · rintro ⟨w, b, hw, hb, hf⟩
    have : w = 0 ∨ w = 1 ∨ w = 2 ∨ w = 3 := by omega
    rcases this with rfl | rfl | rfl | rfl
    · have hb : (if 4 ≤ k then some (k - 4) else none) = some b := hb
      split at hb
      · cases hb; exact Or.inl (Or.inl (Or.inl ⟨by assumption, hf⟩))
      · cases hb
    · have hb : (if k % 4 ≠ 3 then some (k + 1) else none) = some b := hb
      split at hb
      · cases hb; exact Or.inr ⟨by assumption, hf⟩
      · cases hb
    · have hb : (if k < 12 then some (k + 4) else none) = some b := hb
      split at hb
      · cases hb; exact Or.inl (Or.inl (Or.inr ⟨by assumption, hf⟩))
      · cases hb
    · have hb : (if k % 4 ≠ 0 then some (k - 1) else none) = some b := hb
      split at hb
      · cases hb; exact Or.inl (Or.inr ⟨by assumption, hf⟩)
      · cases hb
theorem dry_lid {p : Pl} {k : Nat} (h : dry p k = true) : pL p k = false := by
  unfold dry at h
  simp only [Bool.and_eq_true] at h
  simpa using h.2
theorem dry_of {p : Pl} {k : Nat} (h1 : thr p k = true) (h2 : pL p k = false) : dry p k = true := by unfold dry; rw [h1, h2]; rfl
/-- lower ones beside a cell, or none -/
theorem bes_nx {p : Pl} {h : Nat → Nat} {k : Nat} : bes (fun j => dry p j && decide (lvl p h j < lvl p h k)) k = (nx p h k).isSome := by
  rw [Bool.eq_iff_iff, bes_iff]
  constructor
  · rintro ⟨w, b, hw, hb, hf⟩
    simp only [Bool.and_eq_true, decide_eq_true_eq] at hf
    cases e : nx p h k with
    | some j => rfl
    | none =>
      have := fdN_none 4 e w b hw (nbT_of hb (dry_thr hf.1)) (dry_lid hf.1)
      omega
  · intro hs
    obtain ⟨f, hf⟩ := Option.isSome_iff_exists.mp hs
    obtain ⟨a1, w, a2, a3, a4, -⟩ := fdN_some 4 f hf
    refine ⟨w, f, a2, (nbT_some a3).1, ?_⟩
    rw [dry_of (nbT_some a3).2 a4, decide_eq_true a1]
    rfl
/-- a cell on which a drop stays -/
def pud (p : Pl) (h : Nat → Nat) (k : Nat) : Bool := dry p k && !pD p k && !(nx p h k).isSome
theorem lvl0 {p : Pl} {h : Nat → Nat} {k : Nat} : lvl p h k = 0 ↔ pD p k = true := by
  unfold lvl
  cases pD p k with
  | true => rw [if_pos rfl]; simp
  | false => rw [if_neg (by decide)]; simp
theorem wx_puddles {p : Pl} {h : Nat → Nat} {M : Mem} {Q : Option Value → Mem → Prop} (hh : HtOk p h) (htr : TR p h M) (hQ : Q (some (.int (sI (pud p h)))) M) : WX mi_W_puddles 2 Q 0 [some (.ref 30), none, none, none] [] M := by
  refine sg_W_puddles_30_0 M ?_
  have loop : ∀ t, t ≤ 11 → 1 ≤ t → WX mi_W_puddles 2 Q 11 [some (.ref 30), some (.int (sI (fun k => decide (lvl p h k < t) && pud p h k))), some (.int (sI (fun k => dry p k && decide (lvl p h k < t)))), some (.int (nI t))] [] M := by
    refine downN 11 (fun _ => ?_) (fun t ht ih h1 => ?_)
    · have g : (11 : Int32) ≤ nI 11 := by decide
      refine sg_W_puddles_30_11 M _ _ _ (fun _ => ?_) (fun c => absurd g c) (fun c => absurd g c)
      have e : sI (fun k => decide (lvl p h k < 11) && pud p h k) = sI (pud p h) := sI_ext fun k hk => by
        cases hp : pud p h k with
        | false => simp
        | true =>
          unfold pud at hp
          simp only [Bool.and_eq_true] at hp
          have := lvl_le hh hk (dry_thr hp.1.1)
          simp
          omega
      rw [e]
      exact hQ
    · refine sg_W_puddles_30_11 M _ _ _ (fun c => absurd c (Int32.not_le.mpr (nI_lt (b := 11) ht (by decide)))) (fun _ => vp_in_nI ht (by decide)) (fun _ => ?_)
      rw [nI_clamp (by omega), htr t ht, beside_sI, sI_diff, sI_or, sI_or, nI_1]
      have e1 : sI (fun k => (decide (lvl p h k < t) && pud p h k) || (tS p h t k && !bes (fun k => dry p k && decide (lvl p h k < t)) k)) = sI (fun k => decide (lvl p h k < t + 1) && pud p h k) := sI_ext fun k hk => by
        unfold tS
        by_cases e : lvl p h k = t
        · rw [← e, bes_nx, decide_eq_false (Nat.lt_irrefl _), decide_eq_true (rfl : lvl p h k = lvl p h k), decide_eq_true (show lvl p h k < lvl p h k + 1 by omega)]
          unfold pud
          have hnd : pD p k = false := by
            cases q : pD p k with
            | false => rfl
            | true =>
              have := (lvl0 (h := h)).mpr q
              omega
          rw [hnd]
          simp
        · rw [decide_eq_false e]
          have : decide (lvl p h k < t) = decide (lvl p h k < t + 1) := decide_eq_decide.mpr (by omega)
          rw [this]
          simp
      have e2 : sI (fun k => (dry p k && decide (lvl p h k < t)) || tS p h t k) = sI (fun k => dry p k && decide (lvl p h k < t + 1)) := sI_ext fun k hk => by
        unfold tS
        cases dry p k with
        | false => rfl
        | true =>
          rw [Bool.eq_iff_iff]
          simp only [Bool.true_and, Bool.or_eq_true, decide_eq_true_eq]
          omega
      rw [e1, e2]
      exact ih (by omega)
  have h1 := loop 1 (by decide) (Nat.le_refl 1)
  have e1 : sI (fun k => decide (lvl p h k < 1) && pud p h k) = 0 := sI_zero.mpr (fun k hk => by
    by_cases e : lvl p h k = 0
    · unfold pud
      rw [lvl0.mp e]
      simp
    · rw [decide_eq_false (by omega)]; rfl)
  have e2 : sI (fun k => dry p k && decide (lvl p h k < 1)) = M.1 31 0 := by
    rw [htr 0 (by decide)]
    refine sI_ext fun k _ => ?_
    unfold tS
    have : decide (lvl p h k < 1) = decide (lvl p h k = 0) := decide_eq_decide.mpr (by omega)
    rw [this]
  rw [e1, e2] at h1
  exact h1
theorem wx_puddles_46 {p : Pl} {h : Nat → Nat} {M : Mem} {Q : Option Value → Mem → Prop} (hp : WfP p) (hm : RMp p M) (hh : HtOk p h) (hr : ∀ k, k < 16 → thr p k = true → M.1 46 k = nI (h k)) (hQ : Q (some (.int (sI (pud p h)))) M) : WX mi_M_puddles 5 Q 0 [some (.ref 37), some (.ref 46), none, none] [] M := by
  refine sg_M_puddles_37_46_0 M ?_
  have loop : ∀ u, u ≤ 16 → WX mi_M_puddles 5 Q 4 [some (.ref 37), some (.ref 46), some (.int (sI (fst (pud p h) u))), some (.int (nI u))] [] M := by
    refine downN 16 ?_ (fun u hu ih => ?_)
    · refine sg_M_puddles_37_46_4 M _ _ (fun _ => ?_) (fun c => absurd ge16 c) (fun c => absurd ge16 c) (fun c => absurd ge16 c) (fun c => absurd ge16 c)
      rw [fst_16]
      exact hQ
    · have ed : z_M_isDry_37 M (nI u) = bI (dry p u) := isDry_M hp hm hu
      have er : z_M_isDrain_37 M (nI u) = bI (pD p u) := isDrain_M hm hu
      refine sg_M_puddles_37_46_4 M _ _ (fun c => absurd c (lt16 hu)) (fun _ => by rw [isCell_M hp hm]; exact bI_01 _) (fun _ c => ?_) (fun _ c1 c2 => ?_) (fun _ c1 c2 => ?_)
      · rw [ed, bI_0] at c
        rw [or0, nI_1, fst_f _ (show pud p h u = false by unfold pud; rw [c]; rfl)]
        exact ih
      · rw [er, bI_0] at c2
        have c2' : pD p u = true := by simpa using c2
        rw [or0, nI_1, fst_f _ (show pud p h u = false by unfold pud; rw [c2']; simp)]
        exact ih
      · rw [ed, bI_0] at c1
        rw [er, bI_0] at c2
        have hd : dry p u = true := by simpa using c1
        refine wx_nextOf_46 hp hm hh hr hu (dry_thr hd) ?_
        refine sg_M_puddles_37_46_33 M _ _ _ _ (fun q => ?_) (fun q => ?_)
        · cases e : nx p h u with
          | none => exact absurd ((nx_m9 hu).mpr e) q
          | some j =>
            rw [or0, nI_1, fst_f _ (show pud p h u = false by unfold pud; rw [e]; simp)]
            exact ih
        · have e := (nx_m9 hu).mp q
          rw [nI_1, fst_t _ (show pud p h u = true by unfold pud; rw [e, hd, c2]; rfl) hu]
          exact ih
  have h0 := loop 0 (by decide)
  rw [fst_0] at h0
  exact h0
theorem wx_puddles_48 {p : Pl} {h : Nat → Nat} {M : Mem} {Q : Option Value → Mem → Prop} (hp : WfP p) (hm : RMp p M) (hh : HtOk p h) (hr : ∀ k, k < 16 → thr p k = true → M.1 48 k = nI (h k)) (hQ : Q (some (.int (sI (pud p h)))) M) : WX mi_M_puddles 5 Q 0 [some (.ref 37), some (.ref 48), none, none] [] M := by
  refine sg_M_puddles_37_48_0 M ?_
  have loop : ∀ u, u ≤ 16 → WX mi_M_puddles 5 Q 4 [some (.ref 37), some (.ref 48), some (.int (sI (fst (pud p h) u))), some (.int (nI u))] [] M := by
    refine downN 16 ?_ (fun u hu ih => ?_)
    · refine sg_M_puddles_37_48_4 M _ _ (fun _ => ?_) (fun c => absurd ge16 c) (fun c => absurd ge16 c) (fun c => absurd ge16 c) (fun c => absurd ge16 c)
      rw [fst_16]
      exact hQ
    · have ed : z_M_isDry_37 M (nI u) = bI (dry p u) := isDry_M hp hm hu
      have er : z_M_isDrain_37 M (nI u) = bI (pD p u) := isDrain_M hm hu
      refine sg_M_puddles_37_48_4 M _ _ (fun c => absurd c (lt16 hu)) (fun _ => by rw [isCell_M hp hm]; exact bI_01 _) (fun _ c => ?_) (fun _ c1 c2 => ?_) (fun _ c1 c2 => ?_)
      · rw [ed, bI_0] at c
        rw [or0, nI_1, fst_f _ (show pud p h u = false by unfold pud; rw [c]; rfl)]
        exact ih
      · rw [er, bI_0] at c2
        have c2' : pD p u = true := by simpa using c2
        rw [or0, nI_1, fst_f _ (show pud p h u = false by unfold pud; rw [c2']; simp)]
        exact ih
      · rw [ed, bI_0] at c1
        rw [er, bI_0] at c2
        have hd : dry p u = true := by simpa using c1
        refine wx_nextOf_48 hp hm hh hr hu (dry_thr hd) ?_
        refine sg_M_puddles_37_48_33 M _ _ _ _ (fun q => ?_) (fun q => ?_)
        · cases e : nx p h u with
          | none => exact absurd ((nx_m9 hu).mpr e) q
          | some j =>
            rw [or0, nI_1, fst_f _ (show pud p h u = false by unfold pud; rw [e]; simp)]
            exact ih
        · have e := (nx_m9 hu).mp q
          rw [nI_1, fst_t _ (show pud p h u = true by unfold pud; rw [e, hd, c2]; rfl) hu]
          exact ih
  have h0 := loop 0 (by decide)
  rw [fst_0] at h0
  exact h0
theorem a_from : Agr Inv mi_C_from mi_M_from 5 6 [] := by
  refine agr_ans (fun i s M hw hc hm => ?_)
  obtain ⟨t, p, gh, im, sn, tr⟩ := s
  have hp : WfP p := hw.2.1
  have hg : WfG (20 + i) p gh.1 := hw.2.2.1.1
  have hcg : RCg 9 p gh M := hc.2.2.1
  have hh := ht_ok hg
  have hsn : sn.length ≤ 6 ∧ ∀ k ∈ sn, k < 16 ∧ thr p k = true ∧ pL p k = false := hw.2.2.2.2.2
  refine ⟨sI (fun c => dry p c && sn.all (fun j => wy p (gHt gh.1) 11 c j)), fun Q hQ => ?_, fun M1 Q hm1 hQ => ?_⟩
  · refine sg_C_from_0_0 M ?_
    refine wx_fill hp hc.2.1 hh hcg.1 (fun M1 r1 r2 r3 => ?_)
    have fin := hQ M1 (fun q _ hs => r2 q (fun q' => hs (by unfold scrC; omega))) (fun q hq => r2 q (by omega)) r3
    have hc1 : RCp p M1 := by have := hc.2.1; unfold RCp at this ⊢; rw [r2 6 (by decide)]; exact this
    have h09 : M1.1 0 9 = sI (fun k => decide (k ∈ sn)) := by rw [r2 0 (by decide)]; exact hc.2.2.2.2.1.1
    refine sg_C_from_0_15 M1 ?_
    refine wx_cells hp hc1 ?_
    refine sg_C_from_0_22 M1 _ ?_
    rw [hc1.2.2.2.1, sI_diff]
    have loop : ∀ u, u ≤ 16 → WX mi_C_from 5 Q 37 [some (.ref 0), some (.int (sI (fun c => thr p c && !pL p c))), some (.int (sI (fst (fun c => dry p c && sn.all (fun j => wy p (gHt gh.1) 11 c j)) u))), some (.int (nI u))] [] M1 := by
      refine downN 16 ?_ (fun u hu ih => ?_)
      · refine sg_C_from_0_37 M1 _ _ _ (fun _ => ?_) (fun c => absurd ge16 c) (fun c => absurd ge16 c)
        rw [fst_16]
        exact fin
      · have eh : z_C_holds (sI (fun c => thr p c && !pL p c)) (nI u) = bI (dry p u) := holds_sI hu
        refine sg_C_from_0_37 M1 _ _ _ (fun c => absurd c (lt16 hu)) (fun _ c => ?_) (fun _ c => ?_)
        · rw [eh, bI_0] at c
          rw [nI_1, fst_f _ (show (dry p u && sn.all (fun j => wy p (gHt gh.1) 11 u j)) = false by rw [c]; rfl)]
          exact ih
        · rw [eh, bI_0] at c
          have hd : dry p u = true := by simpa using c
          refine wx_wayOf hh r1 hu hd ?_
          have ez : (M1.1 0 9 &&& (sI (wy p (gHt gh.1) 11 u) ^^^ (-1)) = 0) ↔ sn.all (fun j => wy p (gHt gh.1) 11 u j) = true := by
            rw [h09, sI_diff, sI_zero, List.all_eq_true]
            constructor
            · intro hz j hj
              have := hz j (hsn.2 j hj).1
              rw [decide_eq_true hj] at this
              simpa using this
            · intro ha k _
              by_cases hk : k ∈ sn
              · rw [ha k hk]; simp
              · rw [decide_eq_false hk]; rfl
          refine sg_C_from_0_63 M1 _ _ _ _ _ (fun q => ?_) (fun q => ?_)
          · rw [ez] at q
            rw [nI_1, fst_f _ (show (dry p u && sn.all (fun j => wy p (gHt gh.1) 11 u j)) = false by
              cases q' : sn.all (fun j => wy p (gHt gh.1) 11 u j) with
              | false => simp
              | true => exact absurd q' q)]
            exact ih
          · rw [ez] at q
            rw [nI_1, fst_t _ (show (dry p u && sn.all (fun j => wy p (gHt gh.1) 11 u j)) = true by rw [hd, q]; rfl) hu]
            exact ih
    have h0 := loop 0 (by decide)
    rw [fst_0] at h0
    exact h0
  · have fin := hQ M1 hm1 (FrM.refl M1)
    have e29 : M1.1 37 29 = nI sn.length := hm1.2.2.2.2.1.1
    have e55 := hm1.2.2.2.2.1.2
    refine sg_M_from_37_0 M1 ?_
    have loop : ∀ u, u ≤ 16 → WX mi_M_from 6 Q 4 [some (.ref 37), some (.int (sI (fst (fun c => dry p c && sn.all (fun j => wy p (gHt gh.1) 11 c j)) u))), some (.int (nI u)), none, none, none] [] M1 := by
      refine downN 16 ?_ (fun u hu ih => ?_)
      · refine sg_M_from_37_4 M1 _ _ (fun _ => ?_) (fun c => absurd ge16 c) (fun c => absurd ge16 c) (fun c => absurd ge16 c)
        rw [fst_16]
        exact fin
      · have eh : z_M_isDry_37 M1 (nI u) = bI (dry p u) := isDry_M hp hm1.2.1 hu
        have inner : ∀ (y : Nat → Bool), (dry p u = true → y = wy p (gHt gh.1) 11 u) → ∀ n, n ≤ sn.length → WX mi_M_from 6 Q 34 [some (.ref 37), some (.int (sI (fst (fun c => dry p c && sn.all (fun j => wy p (gHt gh.1) 11 c j)) u))), some (.int (nI u)), some (.int (bI (dry p u && (sn.take n).all (fun j => y j)))), some (.int (sI y)), some (.int (nI n))] [] M1 := by
          intro y hy
          refine downN sn.length ?_ (fun n hn ih2 => ?_)
          · rw [List.take_length]
            have eall : (dry p u && sn.all (fun j => y j)) = (dry p u && sn.all (fun j => wy p (gHt gh.1) 11 u j)) := by
              cases hd : dry p u with
              | false => rfl
              | true => rw [hy hd]
            refine sg_M_from_37_34 M1 _ _ _ _ _ (fun _ c => ?_) (fun _ c => ?_) (fun c => absurd (by rw [e29]; exact Int32.le_refl _) c) (fun c => absurd (by rw [e29]; exact Int32.le_refl _) c) (fun c => absurd (by rw [e29]; exact Int32.le_refl _) c) (fun c => absurd (by rw [e29]; exact Int32.le_refl _) c)
            · rw [bI_0, eall] at c
              rw [or0, nI_1, fst_f _ c]
              exact ih
            · rw [bI_0, eall] at c
              have c' : (dry p u && sn.all (fun j => wy p (gHt gh.1) 11 u j)) = true := by simpa using c
              rw [nI_1, fst_t _ c' hu]
              exact ih
          · have hnl : ¬ M1.1 37 29 ≤ nI n := by rw [e29]; exact Int32.not_le.mpr (nI_lt hn (by omega))
            have hget : sn[n]? = some sn[n] := List.getElem?_eq_getElem hn
            have hk := hsn.2 sn[n] (List.getElem_mem hn)
            have et : sn.take (n + 1) = sn.take n ++ [sn[n]] := by rw [List.take_add_one, hget]; rfl
            have e5 : M1.1 55 (nI n).toNatClampNeg = nI sn[n] := by rw [nI_clamp (by omega)]; exact e55 n _ hget
            have eb : (shr (sI y) (M1.1 55 (nI n).toNatClampNeg)) &&& 1 = bI (y sn[n]) := by
              rw [e5, bit_at (by omega), bt_sI y (by omega), decide_eq_true hk.1, Bool.true_and]
            have eall : (dry p u && (sn.take (n + 1)).all (fun j => y j)) = ((dry p u && (sn.take n).all (fun j => y j)) && y sn[n]) := by
              rw [et, List.all_append]
              simp [Bool.and_assoc]
            rw [eall] at ih2
            refine sg_M_from_37_34 M1 _ _ _ _ _ (fun c => absurd c hnl) (fun c => absurd c hnl) (fun _ c => ?_) (fun _ _ => vp_in_nI (by omega) (by decide)) (fun _ c c2 => ?_) (fun _ c c2 => ?_)
            · rw [bI_0] at c
              rw [c] at ih2
              rw [nI_1]
              exact ih2
            · rw [eb, bI_1] at c2
              have c2' : y sn[n] = false := by simpa using c2
              rw [c2', Bool.and_false] at ih2
              rw [nI_1]
              exact ih2
            · rw [eb, bI_1] at c2
              rw [bI_0] at c
              have c' : (dry p u && (sn.take n).all (fun j => y j)) = true := by simpa using c
              rw [c', c2] at ih2
              rw [nI_1]
              exact ih2
        refine sg_M_from_37_4 M1 _ _ (fun c => absurd c (lt16 hu)) (fun _ => by rw [isCell_M hp hm1.2.1]; exact bI_01 _) (fun _ c => ?_) (fun _ c => ?_)
        · rw [eh, bI_0] at c
          have := inner (fun _ => false) (fun q => by rw [c] at q; cases q) 0 (Nat.zero_le _)
          rw [sI_none, List.take_zero, c] at this
          rw [eh, c]
          exact this
        · rw [eh, bI_0] at c
          have hd : dry p u = true := by simpa using c
          refine wx_wayOfM hp hm1.2.1 hh hm1.hts hu hd ?_
          refine sg_M_from_37_25 M1 _ _ _ _ ?_
          have := inner (wy p (gHt gh.1) 11 u) (fun _ => rfl) 0 (Nat.zero_le _)
          rw [List.take_zero, hd] at this
          rw [eh, hd]
          exact this
    have h0 := loop 0 (by decide)
    rw [fst_0] at h0
    exact h0
