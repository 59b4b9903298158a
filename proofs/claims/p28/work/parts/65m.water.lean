theorem k_drop {B : Nat} {s : Sg} (v w x : Int32) (hw : WfS B s) : ∃ (r : Int32), K1 mi_C_drop 5 [.int v, .int w, .int x] s (.int r) := by
  obtain ⟨t, p, gh, im, sn, tr⟩ := s
  have hp : WfP p := hw.2.1
  have hg : WfG (B) p gh.1 := hw.2.2.1.1
  have hh := ht_ok hg
  by_cases hb : okd p v w = true ∧ 0 ≤ x ∧ x ≤ 1
  · obtain ⟨ho, hx⟩ := hb
    obtain ⟨k, hk, rfl, rfl, ht, hl⟩ := okd_cell hp ho
    have hd : dry p k = true := by unfold dry; rw [ht, hl]; rfl
    have en : z_C_numberOf (nI (k % 4)) (nI (k / 4)) = nI k := numOf k hk
    have en' : (4 * nI (k / 4)) + nI (k % 4) = nI k := numOf' hk
    have lk := lvl_le hh hk ht
    refine ⟨if x = 0 then nI (go p (gHt gh.1) 11 k) else nI (ln p (gHt gh.1) 11 k), fun M Q hc hQ => ?_⟩
    · have hcg : RCg 9 p gh M := hc.2.2.1
      have e : ¬ z_L_isOpen_6 M (nI (k % 4)) (nI (k / 4)) = 0 := by rw [isOpen_C hp hc.2.1, ho]; decide
      refine sg_C_drop_0_0 M _ _ _ (fun c => absurd c e) (fun _ c => absurd c (Int32.not_lt.mpr hx.1)) (fun _ _ _ => ?_) (fun _ _ c => absurd hx.2 c)
      refine wx_fill hp hc.2.1 hh hcg.1 (fun M1 r1 r2 r3 => ?_)
      have fin := hQ M1 (fun q _ hs => r2 q (fun q' => hs (by unfold scrC; omega))) (fun q hq => r2 q (by omega)) r3
      refine sg_C_drop_0_38 M1 _ _ _ (fun c => ?_) (fun c => ?_)
      · rw [en]
        refine wx_wayOf hh r1 hk hd ?_
        refine sg_C_drop_0_70 M1 _ _ _ _ _ ?_
        rw [bitCount_sI, wy_cnt 11 k hk (by omega), nI_pred]
        rw [if_neg c] at fin
        exact fin
      · rw [en]
        refine wx_endOf hh r1 hk hd ?_
        refine sg_C_drop_0_58 M1 _ _ _ _ _ ?_
        rw [if_pos c] at fin
        exact fin
  · refine ⟨-1, fun M Q hc hQ => ?_⟩
    · have hcg : RCg 9 p gh M := hc.2.2.1
      have hd := hQ M (fun _ _ _ => rfl) (fun _ _ => rfl) rfl
      refine sg_C_drop_0_0 M _ _ _ (fun _ => hd) (fun _ _ => hd) (fun c1 c2 c3 => absurd ⟨?_, (one_iff x).mp ⟨c2, c3⟩⟩ hb) (fun _ _ _ => hd)
      rw [isOpen_C hp hc.2.1] at c1
      cases q : okd p v w with
      | true => rfl
      | false => rw [q] at c1; exact absurd rfl c1
theorem k_feeds {B : Nat} {s : Sg} (v w : Int32) (hw : WfS B s) : ∃ (r : Int32), K1 mi_C_feeds 5 [.int v, .int w] s (.int r) := by
  obtain ⟨t, p, gh, im, sn, tr⟩ := s
  have hp : WfP p := hw.2.1
  have hg : WfG (B) p gh.1 := hw.2.2.1.1
  have hh := ht_ok hg
  cases ho : okd p v w with
  | true =>
    obtain ⟨k, hk, rfl, rfl, ht, hl⟩ := okd_cell hp ho
    have en : z_C_numberOf (nI (k % 4)) (nI (k / 4)) = nI k := numOf k hk
    have en' : (4 * nI (k / 4)) + nI (k % 4) = nI k := numOf' hk
    refine ⟨sI (fun c => dry p c && decide (go p (gHt gh.1) 11 c = k)), fun M Q hc hQ => ?_⟩
    · have hcg : RCg 9 p gh M := hc.2.2.1
      have e : ¬ z_L_isOpen_6 M (nI (k % 4)) (nI (k / 4)) = 0 := by rw [isOpen_C hp hc.2.1, ho]; decide
      have gk : ∀ c, c < 16 → dry p c = true → go p (gHt gh.1) 11 c < 16 := by
        have : ∀ f c, c < 16 → go p (gHt gh.1) f c < 16 := by
          intro f
          induction f with
          | zero => intro c hc; exact hc
          | succ f ih =>
            intro c hc
            cases e : nx p (gHt gh.1) c with
            | none => rw [go_n e]; exact hc
            | some j => rw [go_j e]; exact ih j (nx_ok hc e).1
        exact fun c hc _ => this 11 c hc
      refine sg_C_feeds_0_0 M _ _ (fun _ => ?_) (fun c => absurd c e)
      refine wx_fill hp hc.2.1 hh hcg.1 (fun M1 r1 r2 r3 => ?_)
      have fin := hQ M1 (fun q _ hs => r2 q (fun q' => hs (by unfold scrC; omega))) (fun q hq => r2 q (by omega)) r3
      have hc1 : RCp p M1 := by have := hc.2.1; unfold RCp at this ⊢; rw [r2 6 (by decide)]; exact this
      refine sg_C_feeds_0_29 M1 _ _ ?_
      refine wx_cells hp hc1 ?_
      refine sg_C_feeds_0_42 M1 _ _ _ _ ?_
      rw [hc1.2.2.2.1, sI_diff, en]
      have loop : ∀ u, u ≤ 16 → WX mi_C_feeds 5 Q 60 [some (.ref 0), some (.int (nI (k % 4))), some (.int (nI (k / 4))), some (.int (nI k)), some (.int (sI (fun c => thr p c && !pL p c))), some (.int (sI (fst (fun c => dry p c && decide (go p (gHt gh.1) 11 c = k)) u))), some (.int (nI u))] [] M1 := by
        refine downN 16 ?_ (fun u hu ih => ?_)
        · refine sg_C_feeds_0_60 M1 _ _ _ _ _ _ (fun _ => ?_) (fun c => absurd ge16 c) (fun c => absurd ge16 c)
          rw [fst_16]
          exact fin
        · have eh : z_C_holds (sI (fun c => thr p c && !pL p c)) (nI u) = bI (dry p u) := holds_sI hu
          refine sg_C_feeds_0_60 M1 _ _ _ _ _ _ (fun c => absurd c (lt16 hu)) (fun _ c => ?_) (fun _ c => ?_)
          · rw [eh, bI_0] at c
            rw [nI_1, fst_f _ (show (dry p u && decide (go p (gHt gh.1) 11 u = k)) = false by rw [c]; rfl)]
            exact ih
          · rw [eh, bI_0] at c
            have hd : dry p u = true := by simpa using c
            refine wx_endOf hh r1 hu hd ?_
            refine sg_C_feeds_0_86 M1 _ _ _ _ _ _ _ (fun q => ?_) (fun q => ?_)
            · have ne : ¬ go p (gHt gh.1) 11 u = k := fun q' => q (by rw [q'])
              rw [nI_1, fst_f _ (show (dry p u && decide (go p (gHt gh.1) 11 u = k)) = false by rw [decide_eq_false ne]; simp)]
              exact ih
            · have eq := (nI_eq (by have := gk u hu hd; omega) (by omega)).mp q
              rw [nI_1, fst_t _ (show (dry p u && decide (go p (gHt gh.1) 11 u = k)) = true by rw [hd, decide_eq_true eq]; rfl) hu]
              exact ih
      have h0 := loop 0 (by decide)
      rw [fst_0] at h0
      exact h0
  | false =>
    refine ⟨-1, fun M Q hc hQ => ?_⟩
    · have hcg : RCg 9 p gh M := hc.2.2.1
      exact sg_C_feeds_0_0 M _ _ (fun c => absurd (by rw [isOpen_C hp hc.2.1, ho]; rfl) c) (fun _ => hQ M (fun _ _ _ => rfl) (fun _ _ => rfl) rfl)
theorem k_from {B : Nat} {s : Sg} (hw : WfS B s) : ∃ (r : Int32), K1 mi_C_from 5 [] s (.int r) := by
  obtain ⟨t, p, gh, im, sn, tr⟩ := s
  have hp : WfP p := hw.2.1
  have hg : WfG (B) p gh.1 := hw.2.2.1.1
  have hh := ht_ok hg
  have hsn : sn.length ≤ 6 ∧ ∀ k ∈ sn, k < 16 ∧ thr p k = true ∧ pL p k = false := hw.2.2.2.2.2
  refine ⟨sI (fun c => dry p c && sn.all (fun j => wy p (gHt gh.1) 11 c j)), fun M Q hc hQ => ?_⟩
  · have hcg : RCg 9 p gh M := hc.2.2.1
    refine sg_C_from_0_0 M ?_
    refine wx_fill hp hc.2.1 hh hcg.1 (fun M1 r1 r2 r3 => ?_)
    have fin := hQ M1 (fun q _ hs => r2 q (fun q' => hs (by unfold scrC; omega))) (fun q hq => r2 q (by omega)) r3
    have hc1 : RCp p M1 := by have := hc.2.1; unfold RCp at this ⊢; rw [r2 6 (by decide)]; exact this
    have h09 : M1.1 0 9 = sI (fun k => decide (k ∈ sn)) := by rw [r2 0 (by decide)]; exact hc.2.2.2.2.1.1
    refine sg_C_from_0_15 M1 ?_
    refine wx_cells hp hc1 ?_
    refine sg_C_from_0_22 M1 _ ?_
    rw [hc1.2.2.2.1, sI_diff]
    have loop : ∀ u, u ≤ 16 → WX mi_C_from 5 Q 37 [some (.ref 0), some (.int (sI (fun c => thr p c && !pL p c))), some (.int (sI (fst (fun c => dry p c && sn.all (fun j => wy p (gHt gh.1) 11 c j)) u))), some (.int (nI u))] [] M1 := by
      refine downN 16 ?_ (fun u hu ih => ?_)
      · refine sg_C_from_0_37 M1 _ _ _ (fun _ => ?_) (fun c => absurd ge16 c) (fun c => absurd ge16 c)
        rw [fst_16]
        exact fin
      · have eh : z_C_holds (sI (fun c => thr p c && !pL p c)) (nI u) = bI (dry p u) := holds_sI hu
        refine sg_C_from_0_37 M1 _ _ _ (fun c => absurd c (lt16 hu)) (fun _ c => ?_) (fun _ c => ?_)
        · rw [eh, bI_0] at c
          rw [nI_1, fst_f _ (show (dry p u && sn.all (fun j => wy p (gHt gh.1) 11 u j)) = false by rw [c]; rfl)]
          exact ih
        · rw [eh, bI_0] at c
          have hd : dry p u = true := by simpa using c
          refine wx_wayOf hh r1 hu hd ?_
          have ez : (M1.1 0 9 &&& (sI (wy p (gHt gh.1) 11 u) ^^^ (-1)) = 0) ↔ sn.all (fun j => wy p (gHt gh.1) 11 u j) = true := by
            rw [h09, sI_diff, sI_zero, List.all_eq_true]
            constructor
            · intro hz j hj
              have := hz j (hsn.2 j hj).1
              rw [decide_eq_true hj] at this
              simpa using this
            · intro ha k _
              by_cases hk : k ∈ sn
              · rw [ha k hk]; simp
              · rw [decide_eq_false hk]; rfl
          refine sg_C_from_0_63 M1 _ _ _ _ _ (fun q => ?_) (fun q => ?_)
          · rw [ez] at q
            rw [nI_1, fst_f _ (show (dry p u && sn.all (fun j => wy p (gHt gh.1) 11 u j)) = false by
              cases q' : sn.all (fun j => wy p (gHt gh.1) 11 u j) with
              | false => simp
              | true => exact absurd q' q)]
            exact ih
          · rw [ez] at q
            rw [nI_1, fst_t _ (show (dry p u && sn.all (fun j => wy p (gHt gh.1) 11 u j)) = true by rw [hd, q]; rfl) hu]
            exact ih
    have h0 := loop 0 (by decide)
    rw [fst_0] at h0
    exact h0
theorem k_mend {B : Nat} {s : Sg} (x : Int32) (hw : WfS B s) : ∃ (r : Int32), K1 mi_C_mend 5 [.int x] s (.int r) := by
  obtain ⟨t, p, gh, im, sn, tr⟩ := s
  have hp : WfP p := hw.2.1
  have hg : WfG (B) p gh.1 := hw.2.2.1.1
  have hh := ht_ok hg
  by_cases hx : 0 ≤ x ∧ x ≤ 2
  · refine ⟨meA (outM p (gHt gh.1) 16) x, fun M Q hc hQ => ?_⟩
    · have hcg : RCg 9 p gh M := hc.2.2.1
      refine sg_C_mend_0_0 M _ (fun c => absurd c (Int32.not_lt.mpr hx.1)) (fun _ _ => ?_) (fun _ c => absurd hx.2 c)
      refine wx_fill hp hc.2.1 hh hcg.1 (fun M1 r1 r2 r3 => ?_)
      refine sg_C_mend_0_26 M1 _ ?_
      refine wx_search hh r1 (fun M2 q1 q2 q3 => ?_)
      have fin := hQ M2 (fun q _ hs => (q2 q (fun q' => hs (by unfold scrC; omega)) (fun q' => hs (by unfold scrC; omega))).trans (r2 q (fun q' => hs (by unfold scrC; omega)))) (fun q hq => (q2 q (by omega) (by omega)).trans (r2 q (by omega))) (q3.trans r3)
      obtain ⟨c0, c1, c2, c3⟩ := q1
      unfold meA at fin
      refine sg_C_mend_0_37 M2 _ (fun a b => ?_) (fun a b => ?_) (fun a b c => ?_) (fun a => ?_)
      · rw [c0] at a ⊢
        rw [if_neg a, if_pos b] at fin
        exact fin
      · rw [c0] at a
        rw [c1]
        rw [if_neg a, if_neg (by rw [b]; decide), if_pos b] at fin
        exact fin
      · rw [c0] at a
        rw [c2]
        rw [if_neg a, if_neg b, if_neg c] at fin
        exact fin
      · rw [c0] at a
        rw [if_pos a] at fin
        exact fin
  · refine ⟨-1, fun M Q hc hQ => ?_⟩
    · have hcg : RCg 9 p gh M := hc.2.2.1
      have hd := hQ M (fun _ _ _ => rfl) (fun _ _ => rfl) rfl
      exact sg_C_mend_0_0 M _ (fun _ => hd) (fun c1 c2 => absurd ⟨Int32.not_lt.mp c1, c2⟩ hx) (fun _ _ => hd)
