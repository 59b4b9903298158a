/-! ===== the way of a drop, and its end; drop, feeds, from ===== -/
def go (p : Pl) (h : Nat → Nat) : Nat → Nat → Nat
  | 0, k => k
  | f + 1, k => match nx p h k with
    | none => k
    | some j => go p h f j
def ln (p : Pl) (h : Nat → Nat) : Nat → Nat → Nat
  | 0, _ => 0
  | f + 1, k => match nx p h k with
    | none => 0
    | some j => ln p h f j + 1
def wy (p : Pl) (h : Nat → Nat) : Nat → Nat → Nat → Bool
  | 0, _, _ => false
  | f + 1, k, i => decide (i = k) || (match nx p h k with
    | none => false
    | some j => wy p h f j i)
theorem nx_ok {p : Pl} {h : Nat → Nat} {k j : Nat} (hk : k < 16) (hj : nx p h k = some j) : j < 16 ∧ dry p j = true ∧ lvl p h j < lvl p h k := fdN_ok hk hj
theorem nx_m9 {p : Pl} {h : Nat → Nat} {k : Nat} (hk : k < 16) : eSl (nx p h k) = -9 ↔ nx p h k = none := eSl_lt (fun f hf => (fdN_ok hk hf).1)
theorem go_n {p : Pl} {h : Nat → Nat} {f k : Nat} (e : nx p h k = none) : go p h (f + 1) k = k := by
  show (match nx p h k with | none => k | some j => go p h f j) = k
  rw [e]
theorem go_j {p : Pl} {h : Nat → Nat} {f k j : Nat} (e : nx p h k = some j) : go p h (f + 1) k = go p h f j := by
  show (match nx p h k with | none => k | some j => go p h f j) = _
  rw [e]
theorem ln_n {p : Pl} {h : Nat → Nat} {f k : Nat} (e : nx p h k = none) : ln p h (f + 1) k = 0 := by
  show (match nx p h k with | none => 0 | some j => ln p h f j + 1) = 0
  rw [e]
theorem ln_j {p : Pl} {h : Nat → Nat} {f k j : Nat} (e : nx p h k = some j) : ln p h (f + 1) k = ln p h f j + 1 := by
  show (match nx p h k with | none => 0 | some j => ln p h f j + 1) = _
  rw [e]
theorem wy_n {p : Pl} {h : Nat → Nat} {f k : Nat} (e : nx p h k = none) : wy p h (f + 1) k = fun i => decide (i = k) := by
  funext i
  show (decide (i = k) || (match nx p h k with | none => false | some j => wy p h f j i)) = _
  rw [e, Bool.or_false]
theorem wy_j {p : Pl} {h : Nat → Nat} {f k j : Nat} (e : nx p h k = some j) : wy p h (f + 1) k = fun i => decide (i = k) || wy p h f j i := by
  funext i
  show (decide (i = k) || (match nx p h k with | none => false | some j => wy p h f j i)) = _
  rw [e]
theorem wy_lvl {p : Pl} {h : Nat → Nat} : ∀ f k i, k < 16 → wy p h f k i = true → lvl p h i ≤ lvl p h k
  | 0, _, _, _, hw => by cases hw
  | f + 1, k, i, hk, hw => by
    cases e : nx p h k with
    | none =>
      rw [wy_n e, decide_eq_true_eq] at hw
      rw [hw]
      exact Nat.le_refl _
    | some j =>
      rw [wy_j e] at hw
      simp only [Bool.or_eq_true, decide_eq_true_eq] at hw
      rcases hw with q | q
      · rw [q]; exact Nat.le_refl _
      · have h1 := nx_ok hk e
        have := wy_lvl f j i h1.1 q
        omega
theorem wy_cnt {p : Pl} {h : Nat → Nat} : ∀ f k, k < 16 → lvl p h k < f → cntB (wy p h f k) 16 = ln p h f k + 1
  | 0, k, _, hl => absurd hl (Nat.not_lt_zero _)
  | f + 1, k, hk, hl => by
    cases e : nx p h k with
    | none =>
      rw [wy_n e, ln_n e]
      have := cntB_add (g := fun _ => false) (k := k) rfl 16
      rw [if_pos hk] at this
      have e2 : cntB (fun i => decide (i = k)) 16 = cntB (fun j => decide (j = k) || false) 16 := cntB_congr 16 (fun i _ => by rw [Bool.or_false])
      rw [e2, this]
      rfl
    | some j =>
      have h1 := nx_ok hk e
      rw [wy_j e, ln_j e]
      have hf : wy p h f j k = false := by
        cases q : wy p h f j k with
        | false => rfl
        | true =>
          have := wy_lvl f j k h1.1 q
          omega
      rw [cntB_add hf, wy_cnt f j h1.1 (by omega), if_pos hk]
theorem wx_endOf {p : Pl} {h : Nat → Nat} {M : Mem} {Q : Option Value → Mem → Prop} (hh : HtOk p h) (htr : TR p h M) {k : Nat} (hk : k < 16) (hd : dry p k = true) (hQ : Q (some (.int (nI (go p h 11 k)))) M) : WX mi_W_endOf 4 Q 0 [some (.ref 30), some (.int (nI k)), none, none, none] [] M := by
  refine sg_W_endOf_30_0 M _ ?_
  have loop : ∀ f c i, c < 16 → dry p c = true → lvl p h c < f → f + i ≤ 16 → go p h f c = go p h 11 k → WX mi_W_endOf 4 Q 4 [some (.ref 30), some (.int (nI k)), some (.int (nI c)), some (.int (nI i)), none] [] M := by
    intro f
    induction f with
    | zero => intro c i _ _ hl; exact absurd hl (Nat.not_lt_zero _)
    | succ f ih =>
      intro c i hc hdc hl hfi hgo
      refine sg_W_endOf_30_4 M _ _ _ (fun q => absurd q (lt16 (by omega))) (fun _ => ?_)
      refine wx_onward hh htr hc hdc ?_
      refine sg_W_endOf_30_15 M _ _ _ _ (fun q => ?_) (fun q => ?_)
      · cases e : nx p h c with
        | none => exact absurd ((nx_m9 hc).mpr e) q
        | some j =>
          have h1 := nx_ok hc e
          rw [nI_1]
          exact ih j (i + 1) h1.1 h1.2.1 (by omega) (by omega) (by rw [← go_j e]; exact hgo)
      · have e := (nx_m9 hc).mp q
        rw [go_n e] at hgo
        rw [hgo]
        exact hQ
  exact loop 11 k 0 hk hd (by have := lvl_le hh hk (dry_thr hd); omega) (by decide) rfl
theorem wx_wayOf {p : Pl} {h : Nat → Nat} {M : Mem} {Q : Option Value → Mem → Prop} (hh : HtOk p h) (htr : TR p h M) {k : Nat} (hk : k < 16) (hd : dry p k = true) (hQ : Q (some (.int (sI (wy p h 11 k)))) M) : WX mi_W_wayOf 4 Q 0 [some (.ref 30), some (.int (nI k)), none, none, none] [] M := by
  refine sg_W_wayOf_30_0 M _ ?_
  have loop : ∀ f c i (a : Nat → Bool), c < 16 → dry p c = true → lvl p h c < f → f + i ≤ 16 → sI (fun j => a j || wy p h f c j) = sI (wy p h 11 k) → WX mi_W_wayOf 4 Q 7 [some (.ref 30), some (.int (nI k)), some (.int (sI a)), some (.int (nI c)), some (.int (nI i))] [] M := by
    intro f
    induction f with
    | zero => intro c i a _ _ hl; exact absurd hl (Nat.not_lt_zero _)
    | succ f ih =>
      intro c i a hc hdc hl hfi hgo
      refine sg_W_wayOf_30_7 M _ _ _ _ (fun q => absurd q (lt16 (by omega))) (fun _ q => absurd q (nI_nm9 (by omega))) (fun _ _ => ?_)
      refine wx_onward hh htr hc hdc ?_
      refine sg_W_wayOf_30_31 M _ _ _ _ _ ?_
      rw [sI_one hc, sI_or, nI_1]
      cases e : nx p h c with
      | none =>
        rw [wy_n e] at hgo
        rw [hgo]
        exact sg_W_wayOf_30_7 M _ _ _ _ (fun _ => hQ) (fun _ _ => hQ) (fun _ q => absurd rfl q)
      | some j =>
        have h1 := nx_ok hc e
        rw [wy_j e] at hgo
        refine ih j (i + 1) _ h1.1 h1.2.1 (by omega) (by omega) ?_
        rw [← hgo]
        exact sI_ext fun x _ => Bool.or_assoc _ _ _
  have := loop 11 k 0 (fun _ => false) hk hd (by have := lvl_le hh hk (dry_thr hd); omega) (by decide) (sI_ext fun x _ => Bool.false_or _)
  rw [sI_none] at this
  exact this
theorem ht_ok {B : Nat} {p : Pl} {g : Gd} (hg : WfG B p g) : HtOk p (gHt g) := hg.1
theorem one_iff (x : Int32) : (¬ x < 0 ∧ x ≤ 1) ↔ (0 ≤ x ∧ x ≤ 1) := by rw [Int32.not_lt]
