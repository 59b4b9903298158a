/-! ===== the way of a drop, and its end; drop, feeds, from ===== -/
def go (p : Pl) (h : Nat → Nat) : Nat → Nat → Nat
  | 0, k => k
  | f + 1, k => match nx p h k with
    | none => k
    | some j => go p h f j
def ln (p : Pl) (h : Nat → Nat) : Nat → Nat → Nat
  | 0, _ => 0
  | f + 1, k => match nx p h k with
    | none => 0
    | some j => ln p h f j + 1
def wy (p : Pl) (h : Nat → Nat) : Nat → Nat → Nat → Bool
  | 0, _, _ => false
  | f + 1, k, i => decide (i = k) || (match nx p h k with
    | none => false
    | some j => wy p h f j i)
theorem nx_ok {p : Pl} {h : Nat → Nat} {k j : Nat} (hk : k < 16) (hj : nx p h k = some j) : j < 16 ∧ dry p j = true ∧ lvl p h j < lvl p h k := fdN_ok hk hj
theorem nx_m9 {p : Pl} {h : Nat → Nat} {k : Nat} (hk : k < 16) : eSl (nx p h k) = -9 ↔ nx p h k = none := eSl_lt (fun f hf => (fdN_ok hk hf).1)
theorem go_n {p : Pl} {h : Nat → Nat} {f k : Nat} (e : nx p h k = none) : go p h (f + 1) k = k := by
  show (match nx p h k with | none => k | some j => go p h f j) = k
  rw [e]
theorem go_j {p : Pl} {h : Nat → Nat} {f k j : Nat} (e : nx p h k = some j) : go p h (f + 1) k = go p h f j := by
  show (match nx p h k with | none => k | some j => go p h f j) = _
  rw [e]
theorem ln_n {p : Pl} {h : Nat → Nat} {f k : Nat} (e : nx p h k = none) : ln p h (f + 1) k = 0 := by
  show (match nx p h k with | none => 0 | some j => ln p h f j + 1) = 0
  rw [e]
theorem ln_j {p : Pl} {h : Nat → Nat} {f k j : Nat} (e : nx p h k = some j) : ln p h (f + 1) k = ln p h f j + 1 := by
  show (match nx p h k with | none => 0 | some j => ln p h f j + 1) = _
  rw [e]
theorem wy_n {p : Pl} {h : Nat → Nat} {f k : Nat} (e : nx p h k = none) : wy p h (f + 1) k = fun i => decide (i = k) := by
  funext i
  show (decide (i = k) || (match nx p h k with | none => false | some j => wy p h f j i)) = _
  rw [e, Bool.or_false]
theorem wy_j {p : Pl} {h : Nat → Nat} {f k j : Nat} (e : nx p h k = some j) : wy p h (f + 1) k = fun i => decide (i = k) || wy p h f j i := by
  funext i
  show (decide (i = k) || (match nx p h k with | none => false | some j => wy p h f j i)) = _
  rw [e]
theorem wy_lvl {p : Pl} {h : Nat → Nat} : ∀ f k i, k < 16 → wy p h f k i = true → lvl p h i ≤ lvl p h k
  | 0, _, _, _, hw => by cases hw
  | f + 1, k, i, hk, hw => by
    cases e : nx p h k with
    | none =>
      rw [wy_n e, decide_eq_true_eq] at hw
      rw [hw]
      exact Nat.le_refl _
    | some j =>
      rw [wy_j e] at hw
      simp only [Bool.or_eq_true, decide_eq_true_eq] at hw
      rcases hw with q | q
      · rw [q]; exact Nat.le_refl _
      · have h1 := nx_ok hk e
        have := wy_lvl f j i h1.1 q
        omega
theorem wy_cnt {p : Pl} {h : Nat → Nat} : ∀ f k, k < 16 → lvl p h k < f → cntB (wy p h f k) 16 = ln p h f k + 1
  | 0, k, _, hl => absurd hl (Nat.not_lt_zero _)
  | f + 1, k, hk, hl => by
    cases e : nx p h k with
    | none =>
      rw [wy_n e, ln_n e]
      have := cntB_add (g := fun _ => false) (k := k) rfl 16
      rw [if_pos hk] at this
      have e2 : cntB (fun i => decide (i = k)) 16 = cntB (fun j => decide (j = k) || false) 16 := cntB_congr 16 (fun i _ => by rw [Bool.or_false])
      rw [e2, this]
      rfl
    | some j =>
      have h1 := nx_ok hk e
      rw [wy_j e, ln_j e]
      have hf : wy p h f j k = false := by
        cases q : wy p h f j k with
        | false => rfl
        | true =>
          have := wy_lvl f j k h1.1 q
          omega
      rw [cntB_add hf, wy_cnt f j h1.1 (by omega), if_pos hk]
theorem wx_endOf {p : Pl} {h : Nat → Nat} {M : Mem} {Q : Option Value → Mem → Prop} (hh : HtOk p h) (htr : TR p h M) {k : Nat} (hk : k < 16) (hd : dry p k = true) (hQ : Q (some (.int (nI (go p h 11 k)))) M) : WX mi_W_endOf 4 Q 0 [some (.ref 30), some (.int (nI k)), none, none, none] [] M := by
  refine sg_W_endOf_30_0 M _ ?_
  have loop : ∀ f c i, c < 16 → dry p c = true → lvl p h c < f → f + i ≤ 16 → go p h f c = go p h 11 k → WX mi_W_endOf 4 Q 4 [some (.ref 30), some (.int (nI k)), some (.int (nI c)), some (.int (nI i)), none] [] M := by
    intro f
    induction f with
    | zero => intro c i _ _ hl; exact absurd hl (Nat.not_lt_zero _)
    | succ f ih =>
      intro c i hc hdc hl hfi hgo
      refine sg_W_endOf_30_4 M _ _ _ (fun q => absurd q (lt16 (by omega))) (fun _ => ?_)
      refine wx_onward hh htr hc hdc ?_
      refine sg_W_endOf_30_15 M _ _ _ _ (fun q => ?_) (fun q => ?_)
      · cases e : nx p h c with
        | none => exact absurd ((nx_m9 hc).mpr e) q
        | some j =>
          have h1 := nx_ok hc e
          rw [nI_1]
          exact ih j (i + 1) h1.1 h1.2.1 (by omega) (by omega) (by rw [← go_j e]; exact hgo)
      · have e := (nx_m9 hc).mp q
        rw [go_n e] at hgo
        rw [hgo]
        exact hQ
  exact loop 11 k 0 hk hd (by have := lvl_le hh hk (dry_thr hd); omega) (by decide) rfl
theorem wx_wayOf {p : Pl} {h : Nat → Nat} {M : Mem} {Q : Option Value → Mem → Prop} (hh : HtOk p h) (htr : TR p h M) {k : Nat} (hk : k < 16) (hd : dry p k = true) (hQ : Q (some (.int (sI (wy p h 11 k)))) M) : WX mi_W_wayOf 4 Q 0 [some (.ref 30), some (.int (nI k)), none, none, none] [] M := by
  refine sg_W_wayOf_30_0 M _ ?_
  have loop : ∀ f c i (a : Nat → Bool), c < 16 → dry p c = true → lvl p h c < f → f + i ≤ 16 → sI (fun j => a j || wy p h f c j) = sI (wy p h 11 k) → WX mi_W_wayOf 4 Q 7 [some (.ref 30), some (.int (nI k)), some (.int (sI a)), some (.int (nI c)), some (.int (nI i))] [] M := by
    intro f
    induction f with
    | zero => intro c i a _ _ hl; exact absurd hl (Nat.not_lt_zero _)
    | succ f ih =>
      intro c i a hc hdc hl hfi hgo
      refine sg_W_wayOf_30_7 M _ _ _ _ (fun q => absurd q (lt16 (by omega))) (fun _ q => absurd q (nI_nm9 (by omega))) (fun _ _ => ?_)
      refine wx_onward hh htr hc hdc ?_
      refine sg_W_wayOf_30_31 M _ _ _ _ _ ?_
      rw [sI_one hc, sI_or, nI_1]
      cases e : nx p h c with
      | none =>
        rw [wy_n e] at hgo
        rw [hgo]
        exact sg_W_wayOf_30_7 M _ _ _ _ (fun _ => hQ) (fun _ _ => hQ) (fun _ q => absurd rfl q)
      | some j =>
        have h1 := nx_ok hc e
        rw [wy_j e] at hgo
        refine ih j (i + 1) _ h1.1 h1.2.1 (by omega) (by omega) ?_
        rw [← hgo]
        exact sI_ext fun x _ => Bool.or_assoc _ _ _
  have := loop 11 k 0 (fun _ => false) hk hd (by have := lvl_le hh hk (dry_thr hd); omega) (by decide) (sI_ext fun x _ => Bool.false_or _)
  rw [sI_none] at this
  exact this
theorem wx_endOfM {p : Pl} {h : Nat → Nat} {M : Mem} {Q : Option Value → Mem → Prop} (hp : WfP p) (hm : RMp p M) (hh : HtOk p h) (hr : ∀ k, k < 16 → thr p k = true → M.1 46 k = nI (h k)) {k : Nat} (hk : k < 16) (hd : dry p k = true) (hQ : Q (some (.int (nI (go p h 11 k)))) M) : WX mi_M_endOf 5 Q 0 [some (.ref 37), some (.ref 46), some (.int (nI k)), none, none] [] M := by
  refine sg_M_endOf_37_46_0 M _ ?_
  refine wx_nextOf_46 hp hm hh hr hk (dry_thr hd) ?_
  refine sg_M_endOf_37_46_8 M _ _ _ ?_
  have loop : ∀ f c, c < 16 → lvl p h c < f → go p h f c = go p h 11 k → WX mi_M_endOf 5 Q 10 [some (.ref 37), some (.ref 46), some (.int (nI k)), some (.int (nI c)), some (.int (eSl (nx p h c)))] [] M := by
    intro f
    induction f with
    | zero => intro c _ hl; exact absurd hl (Nat.not_lt_zero _)
    | succ f ih =>
      intro c hc hl hgo
      refine sg_M_endOf_37_46_10 M _ _ _ (fun q => ?_) (fun q => ?_)
      · have e := (nx_m9 hc).mp q
        rw [go_n e] at hgo
        rw [hgo]
        exact hQ
      · cases e : nx p h c with
        | none => exact absurd ((nx_m9 hc).mpr e) q
        | some j =>
          have h1 := nx_ok hc e
          refine wx_nextOf_46 hp hm hh hr h1.1 (dry_thr h1.2.1) ?_
          refine sg_M_endOf_37_46_26 M _ _ _ _ ?_
          exact ih j h1.1 (by omega) (by rw [← go_j e]; exact hgo)
  exact loop 11 k hk (by have := lvl_le hh hk (dry_thr hd); omega) rfl
theorem wx_wayOfM {p : Pl} {h : Nat → Nat} {M : Mem} {Q : Option Value → Mem → Prop} (hp : WfP p) (hm : RMp p M) (hh : HtOk p h) (hr : ∀ k, k < 16 → thr p k = true → M.1 46 k = nI (h k)) {k : Nat} (hk : k < 16) (hd : dry p k = true) (hQ : Q (some (.int (sI (wy p h 11 k)))) M) : WX mi_M_wayOf 5 Q 0 [some (.ref 37), some (.int (nI k)), none, none] [] M := by
  refine sg_M_wayOf_37_0 M _ ?_
  have loop : ∀ f c (a : Nat → Bool), c < 16 → dry p c = true → lvl p h c < f → sI (fun j => a j || wy p h f c j) = sI (wy p h 11 k) → WX mi_M_wayOf 5 Q 4 [some (.ref 37), some (.int (nI k)), some (.int (sI a)), some (.int (nI c))] [] M := by
    intro f
    induction f with
    | zero => intro c a _ _ hl; exact absurd hl (Nat.not_lt_zero _)
    | succ f ih =>
      intro c a hc hdc hl hgo
      refine sg_M_wayOf_37_4 M _ _ _ (fun q => absurd q (nI_nm9 (by omega))) (fun _ => ?_)
      refine wx_nextOf_46 hp hm hh hr hc (dry_thr hdc) ?_
      refine sg_M_wayOf_37_25 M _ _ _ _ ?_
      rw [sI_one hc, sI_or]
      cases e : nx p h c with
      | none =>
        rw [wy_n e] at hgo
        rw [hgo]
        exact sg_M_wayOf_37_4 M _ _ _ (fun _ => hQ) (fun q => absurd rfl q)
      | some j =>
        have h1 := nx_ok hc e
        rw [wy_j e] at hgo
        refine ih j _ h1.1 h1.2.1 (by omega) ?_
        rw [← hgo]
        exact sI_ext fun x _ => Bool.or_assoc _ _ _
  have := loop 11 k (fun _ => false) hk hd (by have := lvl_le hh hk (dry_thr hd); omega) (sI_ext fun x _ => Bool.false_or _)
  rw [sI_none] at this
  exact this
theorem ht_ok {B : Nat} {p : Pl} {g : Gd} (hg : WfG B p g) : HtOk p (gHt g) := hg.1
theorem RM.hts {s : Sg} {M : Mem} (h : RM s M) : ∀ k, k < 16 → thr s.2.1 k = true → M.1 46 k = nI (gHt s.2.2.1.1 k) := fun _ hk ht => h.ht hk ht
theorem one_iff (x : Int32) : (¬ x < 0 ∧ x ≤ 1) ↔ (0 ≤ x ∧ x ≤ 1) := by rw [Int32.not_lt]
theorem a_drop (v w x : Int32) : Agr Inv mi_C_drop mi_M_drop 5 5 [.int v, .int w, .int x] := by
  refine agr_ans (fun i s M hw hc hm => ?_)
  obtain ⟨t, p, gh, im, sn, tr⟩ := s
  have hp : WfP p := hw.2.1
  have hg : WfG (20 + i) p gh.1 := hw.2.2.1.1
  have hcg : RCg 9 p gh M := hc.2.2.1
  have hh := ht_ok hg
  by_cases hb : okd p v w = true ∧ 0 ≤ x ∧ x ≤ 1
  · obtain ⟨ho, hx⟩ := hb
    have e : ¬ z_L_isOpen_6 M v w = 0 := by rw [isOpen_C hp hc.2.1, ho]; decide
    have e' : ∀ M1, RM (t, p, gh, im, sn, tr) M1 → ¬ z_M_isDryAt_37 M1 v w = 0 := fun M1 h => by rw [isDryAt_M hp h.2.1, ho]; decide
    obtain ⟨k, hk, rfl, rfl, ht, hl⟩ := okd_cell hp ho
    have hd : dry p k = true := by unfold dry; rw [ht, hl]; rfl
    have en : z_C_numberOf (nI (k % 4)) (nI (k / 4)) = nI k := numOf k hk
    have en' : (4 * nI (k / 4)) + nI (k % 4) = nI k := numOf' hk
    have lk := lvl_le hh hk ht
    refine ⟨if x = 0 then nI (go p (gHt gh.1) 11 k) else nI (ln p (gHt gh.1) 11 k), fun Q hQ => ?_, fun M1 Q hm1 hQ => ?_⟩
    · refine sg_C_drop_0_0 M _ _ _ (fun c => absurd c e) (fun _ c => absurd c (Int32.not_lt.mpr hx.1)) (fun _ _ _ => ?_) (fun _ _ c => absurd hx.2 c)
      refine wx_fill hp hc.2.1 hh hcg.1 (fun M1 r1 r2 r3 => ?_)
      have fin := hQ M1 (fun q _ hs => r2 q (fun q' => hs (by unfold scrC; omega))) (fun q hq => r2 q (by omega)) r3
      refine sg_C_drop_0_38 M1 _ _ _ (fun c => ?_) (fun c => ?_)
      · rw [en]
        refine wx_wayOf hh r1 hk hd ?_
        refine sg_C_drop_0_70 M1 _ _ _ _ _ ?_
        rw [bitCount_sI, wy_cnt 11 k hk (by omega), nI_pred]
        rw [if_neg c] at fin
        exact fin
      · rw [en]
        refine wx_endOf hh r1 hk hd ?_
        refine sg_C_drop_0_58 M1 _ _ _ _ _ ?_
        rw [if_pos c] at fin
        exact fin
    · have hx' : ¬ z_M_in x 0 1 = 0 := (in_iff1 x).mpr hx
      have fin := hQ M1 hm1 (FrM.refl M1)
      refine sg_M_drop_37_0 M1 _ _ _ (fun c => absurd c (e' M1 hm1)) (fun _ _ => ?_) (fun _ c => absurd c hx')
      rw [en']
      refine wx_nextOf_46 hp hm1.2.1 hh hm1.hts hk ht ?_
      refine sg_M_drop_37_40 M1 _ _ _ _ _ _ ?_
      have loop : ∀ f c n, c < 16 → lvl p (gHt gh.1) c < f → go p (gHt gh.1) f c = go p (gHt gh.1) 11 k → ln p (gHt gh.1) f c + n = ln p (gHt gh.1) 11 k → WX mi_M_drop 5 Q 42 [some (.ref 37), some (.int (nI (k % 4))), some (.int (nI (k / 4))), some (.int x), some (.int (nI c)), some (.int (nI n)), some (.int (eSl (nx p (gHt gh.1) c)))] [] M1 := by
        intro f
        induction f with
        | zero => intro c n _ hl; exact absurd hl (Nat.not_lt_zero _)
        | succ f ih =>
          intro c n hc16 hl hgo hln
          refine sg_M_drop_37_42 M1 _ _ _ _ _ _ (fun q cx => ?_) (fun q cx => ?_) (fun q => ?_)
          · have e := (nx_m9 hc16).mp q
            rw [ln_n e, Nat.zero_add] at hln
            rw [if_neg cx, ← hln] at fin
            exact fin
          · have e := (nx_m9 hc16).mp q
            rw [go_n e] at hgo
            rw [if_pos cx, ← hgo] at fin
            exact fin
          · cases e : nx p (gHt gh.1) c with
            | none => exact absurd ((nx_m9 hc16).mpr e) q
            | some j =>
              have h1 := nx_ok hc16 e
              refine wx_nextOf_46 hp hm1.2.1 hh hm1.hts h1.1 (dry_thr h1.2.1) ?_
              refine sg_M_drop_37_63 M1 _ _ _ _ _ _ _ ?_
              rw [nI_1]
              exact ih j (n + 1) h1.1 (by omega) (by rw [← go_j e]; exact hgo) (by rw [ln_j e] at hln; omega)
      exact loop 11 k 0 hk (by omega) rfl (Nat.add_zero _)
  · refine ⟨-1, fun Q hQ => ?_, fun M1 Q hm1 hQ => ?_⟩
    · have hd := hQ M (fun _ _ _ => rfl) (fun _ _ => rfl) rfl
      refine sg_C_drop_0_0 M _ _ _ (fun _ => hd) (fun _ _ => hd) (fun c1 c2 c3 => absurd ⟨?_, (one_iff x).mp ⟨c2, c3⟩⟩ hb) (fun _ _ _ => hd)
      rw [isOpen_C hp hc.2.1] at c1
      cases q : okd p v w with
      | true => rfl
      | false => rw [q] at c1; exact absurd rfl c1
    · have hd := hQ M1 hm1 (FrM.refl M1)
      refine sg_M_drop_37_0 M1 _ _ _ (fun _ => hd) (fun c1 c2 => absurd ⟨?_, (in_iff1 x).mp c2⟩ hb) (fun _ _ => hd)
      rw [isDryAt_M hp hm1.2.1] at c1
      cases q : okd p v w with
      | true => rfl
      | false => rw [q] at c1; exact absurd rfl c1
theorem a_feeds (v w : Int32) : Agr Inv mi_C_feeds mi_M_feeds 5 6 [.int v, .int w] := by
  refine agr_ans (fun i s M hw hc hm => ?_)
  obtain ⟨t, p, gh, im, sn, tr⟩ := s
  have hp : WfP p := hw.2.1
  have hg : WfG (20 + i) p gh.1 := hw.2.2.1.1
  have hcg : RCg 9 p gh M := hc.2.2.1
  have hh := ht_ok hg
  cases ho : okd p v w with
  | true =>
    have e : ¬ z_L_isOpen_6 M v w = 0 := by rw [isOpen_C hp hc.2.1, ho]; decide
    have e' : ∀ M1, RM (t, p, gh, im, sn, tr) M1 → ¬ z_M_isDryAt_37 M1 v w = 0 := fun M1 h => by rw [isDryAt_M hp h.2.1, ho]; decide
    obtain ⟨k, hk, rfl, rfl, ht, hl⟩ := okd_cell hp ho
    have en : z_C_numberOf (nI (k % 4)) (nI (k / 4)) = nI k := numOf k hk
    have en' : (4 * nI (k / 4)) + nI (k % 4) = nI k := numOf' hk
    have gk : ∀ c, c < 16 → dry p c = true → go p (gHt gh.1) 11 c < 16 := by
      have : ∀ f c, c < 16 → go p (gHt gh.1) f c < 16 := by
        intro f
        induction f with
        | zero => intro c hc; exact hc
        | succ f ih =>
          intro c hc
          cases e : nx p (gHt gh.1) c with
          | none => rw [go_n e]; exact hc
          | some j => rw [go_j e]; exact ih j (nx_ok hc e).1
      exact fun c hc _ => this 11 c hc
    refine ⟨sI (fun c => dry p c && decide (go p (gHt gh.1) 11 c = k)), fun Q hQ => ?_, fun M1 Q hm1 hQ => ?_⟩
    · refine sg_C_feeds_0_0 M _ _ (fun _ => ?_) (fun c => absurd c e)
      refine wx_fill hp hc.2.1 hh hcg.1 (fun M1 r1 r2 r3 => ?_)
      have fin := hQ M1 (fun q _ hs => r2 q (fun q' => hs (by unfold scrC; omega))) (fun q hq => r2 q (by omega)) r3
      have hc1 : RCp p M1 := by have := hc.2.1; unfold RCp at this ⊢; rw [r2 6 (by decide)]; exact this
      refine sg_C_feeds_0_29 M1 _ _ ?_
      refine wx_cells hp hc1 ?_
      refine sg_C_feeds_0_42 M1 _ _ _ _ ?_
      rw [hc1.2.2.2.1, sI_diff, en]
      have loop : ∀ u, u ≤ 16 → WX mi_C_feeds 5 Q 60 [some (.ref 0), some (.int (nI (k % 4))), some (.int (nI (k / 4))), some (.int (nI k)), some (.int (sI (fun c => thr p c && !pL p c))), some (.int (sI (fst (fun c => dry p c && decide (go p (gHt gh.1) 11 c = k)) u))), some (.int (nI u))] [] M1 := by
        refine downN 16 ?_ (fun u hu ih => ?_)
        · refine sg_C_feeds_0_60 M1 _ _ _ _ _ _ (fun _ => ?_) (fun c => absurd ge16 c) (fun c => absurd ge16 c)
          rw [fst_16]
          exact fin
        · have eh : z_C_holds (sI (fun c => thr p c && !pL p c)) (nI u) = bI (dry p u) := holds_sI hu
          refine sg_C_feeds_0_60 M1 _ _ _ _ _ _ (fun c => absurd c (lt16 hu)) (fun _ c => ?_) (fun _ c => ?_)
          · rw [eh, bI_0] at c
            rw [nI_1, fst_f _ (show (dry p u && decide (go p (gHt gh.1) 11 u = k)) = false by rw [c]; rfl)]
            exact ih
          · rw [eh, bI_0] at c
            have hd : dry p u = true := by simpa using c
            refine wx_endOf hh r1 hu hd ?_
            refine sg_C_feeds_0_86 M1 _ _ _ _ _ _ _ (fun q => ?_) (fun q => ?_)
            · have ne : ¬ go p (gHt gh.1) 11 u = k := fun q' => q (by rw [q'])
              rw [nI_1, fst_f _ (show (dry p u && decide (go p (gHt gh.1) 11 u = k)) = false by rw [decide_eq_false ne]; simp)]
              exact ih
            · have eq := (nI_eq (by have := gk u hu hd; omega) (by omega)).mp q
              rw [nI_1, fst_t _ (show (dry p u && decide (go p (gHt gh.1) 11 u = k)) = true by rw [hd, decide_eq_true eq]; rfl) hu]
              exact ih
      have h0 := loop 0 (by decide)
      rw [fst_0] at h0
      exact h0
    · have fin := hQ M1 hm1 (FrM.refl M1)
      refine sg_M_feeds_37_0 M1 _ _ (fun _ => ?_) (fun c => absurd c (e' M1 hm1))
      have loop : ∀ u, u ≤ 16 → WX mi_M_feeds 6 Q 16 [some (.ref 37), some (.int (nI (k % 4))), some (.int (nI (k / 4))), some (.int (sI (fst (fun c => dry p c && decide (go p (gHt gh.1) 11 c = k)) u))), some (.int (nI u))] [] M1 := by
        refine downN 16 ?_ (fun u hu ih => ?_)
        · refine sg_M_feeds_37_16 M1 _ _ _ _ (fun _ => ?_) (fun c => absurd ge16 c) (fun c => absurd ge16 c) (fun c => absurd ge16 c)
          rw [fst_16]
          exact fin
        · have eh : z_M_isDry_37 M1 (nI u) = bI (dry p u) := isDry_M hp hm1.2.1 hu
          refine sg_M_feeds_37_16 M1 _ _ _ _ (fun c => absurd c (lt16 hu)) (fun _ => by rw [isCell_M hp hm1.2.1]; exact bI_01 _) (fun _ c => ?_) (fun _ c => ?_)
          · rw [eh, bI_0] at c
            rw [or0, nI_1, fst_f _ (show (dry p u && decide (go p (gHt gh.1) 11 u = k)) = false by rw [c]; rfl)]
            exact ih
          · rw [eh, bI_0] at c
            have hd : dry p u = true := by simpa using c
            refine wx_endOfM hp hm1.2.1 hh hm1.hts hu hd ?_
            refine sg_M_feeds_37_43 M1 _ _ _ _ _ _ (fun q => ?_) (fun q => ?_)
            · rw [en'] at q
              have ne : ¬ go p (gHt gh.1) 11 u = k := fun q' => q (by rw [q'])
              rw [or0, nI_1, fst_f _ (show (dry p u && decide (go p (gHt gh.1) 11 u = k)) = false by rw [decide_eq_false ne]; simp)]
              exact ih
            · rw [en'] at q
              have eq := (nI_eq (by have := gk u hu hd; omega) (by omega)).mp q
              rw [nI_1, fst_t _ (show (dry p u && decide (go p (gHt gh.1) 11 u = k)) = true by rw [hd, decide_eq_true eq]; rfl) hu]
              exact ih
      have h0 := loop 0 (by decide)
      rw [fst_0] at h0
      exact h0
  | false =>
    refine ⟨-1, fun Q hQ => ?_, fun M1 Q hm1 hQ => ?_⟩
    · exact sg_C_feeds_0_0 M _ _ (fun c => absurd (by rw [isOpen_C hp hc.2.1, ho]; rfl) c) (fun _ => hQ M (fun _ _ _ => rfl) (fun _ _ => rfl) rfl)
    · exact sg_M_feeds_37_0 M1 _ _ (fun c => absurd (by rw [isDryAt_M hp hm1.2.1, ho]; rfl) c) (fun _ => hQ M1 hm1 (FrM.refl M1))
