/-! ===== water: where a drop goes next; printed by wip/gen/p30.py ===== -/
def dry (p : Pl) (k : Nat) : Bool := thr p k && !pL p k
def lvl (p : Pl) (h : Nat → Nat) (k : Nat) : Nat := if pD p k = true then 0 else h k + 1
def tS (p : Pl) (h : Nat → Nat) (t k : Nat) : Bool := dry p k && decide (lvl p h k = t)
def fstep (p : Pl) (h : Nat → Nat) (k : Nat) (a o : Option Nat) : Option Nat := match o with
  | none => a
  | some b => if pL p b = true then a else if lvl p h k ≤ lvl p h b then a else match a with
    | none => some b
    | some f => if lvl p h f ≤ lvl p h b then a else some b
def fdN (p : Pl) (h : Nat → Nat) (k : Nat) : Nat → Option Nat
  | 0 => none
  | n + 1 => fstep p h k (fdN p h k n) (nbT p k n)
/-- the next cell of a drop -/
def nx (p : Pl) (h : Nat → Nat) (k : Nat) : Option Nat := fdN p h k 4
def HtOk (p : Pl) (h : Nat → Nat) : Prop := ∀ k, k < 16 → thr p k = true → h k ≤ 9
theorem fdN_none {p : Pl} {h : Nat → Nat} {k : Nat} : ∀ n, fdN p h k n = none → ∀ w b, w < n → nbT p k w = some b → pL p b = false → lvl p h k ≤ lvl p h b
  | 0, _, w, _, hw, _, _ => absurd hw (Nat.not_lt_zero w)
  | n + 1, hf, w, b, hw, hb, hl => by
    have hf : fstep p h k (fdN p h k n) (nbT p k n) = none := hf
    have ih := fdN_none (p := p) (h := h) (k := k) n
    cases ho : nbT p k n with
    | none =>
      rw [ho] at hf
      have hf : fdN p h k n = none := hf
      by_cases e : w = n
      · rw [e, ho] at hb; cases hb
      · exact ih hf w b (by omega) hb hl
    | some c =>
      rw [ho] at hf
      unfold fstep at hf
      dsimp only at hf
      by_cases h1 : pL p c = true
      · rw [if_pos h1] at hf
        by_cases e : w = n
        · rw [e, ho] at hb; cases hb; rw [h1] at hl; cases hl
        · exact ih hf w b (by omega) hb hl
      · rw [if_neg h1] at hf
        by_cases h2 : lvl p h k ≤ lvl p h c
        · rw [if_pos h2] at hf
          by_cases e : w = n
          · rw [e, ho] at hb; cases hb; exact h2
          · exact ih hf w b (by omega) hb hl
        · rw [if_neg h2] at hf
          cases ha : fdN p h k n with
          | none => rw [ha] at hf; cases hf
          | some f =>
            rw [ha] at hf
            dsimp only at hf
            split at hf <;> cases hf
theorem fdN_some {p : Pl} {h : Nat → Nat} {k : Nat} : ∀ n f, fdN p h k n = some f → lvl p h f < lvl p h k ∧ ∃ w, w < n ∧ nbT p k w = some f ∧ pL p f = false ∧ ∀ v b, v < n → nbT p k v = some b → pL p b = false → lvl p h f ≤ lvl p h b ∧ (v < w → lvl p h f < lvl p h b)
  | 0, _, hf => by cases hf
  | n + 1, f, hf => by
    have hf : fstep p h k (fdN p h k n) (nbT p k n) = some f := hf
    have ih := fdN_some (p := p) (h := h) (k := k) n
    have old : fdN p h k n = some f → (∀ b, nbT p k n = some b → pL p b = false → lvl p h f ≤ lvl p h b) → lvl p h f < lvl p h k ∧ ∃ w, w < n + 1 ∧ nbT p k w = some f ∧ pL p f = false ∧ ∀ v b, v < n + 1 → nbT p k v = some b → pL p b = false → lvl p h f ≤ lvl p h b ∧ (v < w → lvl p h f < lvl p h b) := by
      intro h1 h2
      obtain ⟨a1, w, a2, a3, a4, a5⟩ := ih f h1
      refine ⟨a1, w, by omega, a3, a4, fun v b hv hb hl => ?_⟩
      by_cases e : v = n
      · subst e; exact ⟨h2 b hb hl, fun q => by omega⟩
      · exact a5 v b (by omega) hb hl
    cases ho : nbT p k n with
    | none =>
      rw [ho] at hf
      exact old hf (fun b hb => by rw [ho] at hb; cases hb)
    | some c =>
      rw [ho] at hf
      unfold fstep at hf
      dsimp only at hf
      by_cases h1 : pL p c = true
      · rw [if_pos h1] at hf
        exact old hf (fun b hb hl => by rw [ho] at hb; cases hb; rw [h1] at hl; cases hl)
      · rw [if_neg h1] at hf
        have h1' : pL p c = false := by simpa using h1
        by_cases h2 : lvl p h k ≤ lvl p h c
        · rw [if_pos h2] at hf
          refine old hf (fun b hb hl => ?_)
          rw [ho] at hb; cases hb
          have := (ih f hf).1
          omega
        · rw [if_neg h2] at hf
          cases ha : fdN p h k n with
          | none =>
            rw [ha] at hf
            cases hf
            refine ⟨by omega, n, by omega, ho, h1', fun v b hv hb hl => ?_⟩
            by_cases e : v = n
            · subst e; rw [ho] at hb; cases hb; exact ⟨Nat.le_refl _, fun q => by omega⟩
            · have := fdN_none n ha v b (by omega) hb hl
              exact ⟨by omega, fun _ => by omega⟩
          | some g =>
            rw [ha] at hf
            dsimp only at hf
            by_cases h3 : lvl p h g ≤ lvl p h c
            · rw [if_pos h3] at hf
              cases hf
              exact old ha (fun b hb hl => by rw [ho] at hb; cases hb; exact h3)
            · rw [if_neg h3] at hf
              cases hf
              refine ⟨by omega, n, by omega, ho, h1', fun v b hv hb hl => ?_⟩
              by_cases e : v = n
              · subst e; rw [ho] at hb; cases hb; exact ⟨Nat.le_refl _, fun q => by omega⟩
              · obtain ⟨b1, w, b2, b3, b4, b5⟩ := ih g ha
                have := (b5 v b (by omega) hb hl).1
                exact ⟨by omega, fun _ => by omega⟩
theorem fdN_ok {p : Pl} {h : Nat → Nat} {k n f : Nat} (hk : k < 16) (hf : fdN p h k n = some f) : f < 16 ∧ dry p f = true ∧ lvl p h f < lvl p h k := by
  obtain ⟨a1, w, a2, a3, a4, a5⟩ := fdN_some n f hf
  refine ⟨nbT_lt hk a3, ?_, a1⟩
  unfold dry
  rw [(nbT_some a3).2, a4]
  rfl
theorem lvl_le {p : Pl} {h : Nat → Nat} (hh : HtOk p h) {k : Nat} (hk : k < 16) (ht : thr p k = true) : lvl p h k ≤ 10 := by
  unfold lvl
  have := hh k hk ht
  split <;> omega
def eL (l : Nat) : Int32 := nI l - 1
theorem eL_le : ∀ a, a < 11 → ∀ b, b < 11 → (eL a ≤ eL b ↔ a ≤ b) := by decide +kernel
theorem eL_s (x : Nat) : eL (x + 1) = nI x := nI_pred x
theorem eSl_lt {o : Option Nat} (h : ∀ f, o = some f → f < 16) : eSl o = -9 ↔ o = none := eSl_m9 (fun c hc => by have := h c hc; omega)
/-! the class's water -/
def TR (p : Pl) (h : Nat → Nat) (M : Mem) : Prop := ∀ t, t < 11 → M.1 31 t = sI (tS p h t)
theorem tS_0 {p : Pl} {h : Nat → Nat} (hp : WfP p) {k : Nat} (hk : k < 16) : tS p h 0 k = pD p k := by
  unfold tS lvl dry
  cases hd : pD p k with
  | true =>
    have := hp.2.2.2.1 k hk hd
    rw [this.1, this.2]
    rfl
  | false => simp
theorem tS_s {p : Pl} {h : Nat → Nat} {k t : Nat} (ht : 0 < t) : tS p h t k = (layb p k && decide (h k + 1 = t)) := by
  unfold tS lvl dry layb
  cases hd : pD p k with
  | true => rw [if_pos rfl, decide_eq_false (p := 0 = t) (by omega)]; simp
  | false => simp
theorem wx_fill {p : Pl} {h : Nat → Nat} {M : Mem} {Q : Option Value → Mem → Prop} (hp : WfP p) (hc : RCp p M) (hh : HtOk p h) (hr : ∀ k, k < 16 → thr p k = true → M.1 10 k = nI (h k)) (hQ : ∀ M', TR p h M' → (∀ q, q ≠ 31 → M'.1 q = M.1 q) → M'.2 = M.2 → Q none M') : WX mi_W_fill 3 Q 0 [some (.ref 30), some (.ref 6), some (.ref 9), none, none, none] [] M := by
  refine sg_W_fill_30_6_9_0 M ?_
  refine wx_layable hp hc ?_
  refine sg_W_fill_30_6_9_4 M _ ?_
  have loop2 : ∀ u, u ≤ 16 → ∀ M1 : Mem, (∀ t, t < 11 → M1.1 31 t = sI (fun k => if t = 0 then pD p k else (decide (k < u) && (layb p k && decide (h k + 1 = t))))) → (∀ q, q ≠ 31 → M1.1 q = M.1 q) → M1.2 = M.2 → WX mi_W_fill 3 Q 42 [some (.ref 30), some (.ref 6), some (.ref 9), some (.int (sI (layb p))), some (.int (nI u)), none] [] M1 := by
    refine downN 16 (fun M1 h1 h2 h3 => ?_) (fun u hu ih M1 h1 h2 h3 => ?_)
    · refine sg_W_fill_30_6_9_42 M1 _ _ (fun _ => hQ M1 (fun t ht => ?_) h2 h3) (fun c => absurd ge16 c) (fun c => absurd ge16 c) (fun c => absurd ge16 c) (fun c => absurd ge16 c) (fun c => absurd ge16 c) (fun c => absurd ge16 c)
      rw [h1 t ht]
      refine sI_ext fun k hk => ?_
      by_cases e : t = 0
      · rw [if_pos e, e, tS_0 hp hk]
      · rw [if_neg e, tS_s (by omega), decide_eq_true hk, Bool.true_and]
    · have eh : z_C_holds (sI (layb p)) (nI u) = bI (layb p u) := holds_sI hu
      have same : layb p u = false → WX mi_W_fill 3 Q 42 [some (.ref 30), some (.ref 6), some (.ref 9), some (.int (sI (layb p))), some (.int (nI u + 1)), none] [] M1 := by
        intro hl
        rw [nI_1]
        refine ih M1 (fun t ht => ?_) h2 h3
        rw [h1 t ht]
        refine sI_ext fun k hk => ?_
        by_cases e : t = 0
        · rw [if_pos e, if_pos e]
        · rw [if_neg e, if_neg e]
          by_cases e2 : k = u
          · rw [e2, hl]; simp
          · have : decide (k < u) = decide (k < u + 1) := by rw [Bool.eq_iff_iff, decide_eq_true_eq, decide_eq_true_eq]; omega
            rw [this]
      have ehh : layb p u = true → M1.1 10 (nI u).toNatClampNeg + 1 = nI (h u + 1) ∧ h u ≤ 9 := by
        intro hl
        have ht := layb_thr hl
        rw [nI_clamp (by omega), h2 10 (by decide), hr u hu ht, nI_1]
        exact ⟨rfl, hh u hu ht⟩
      have lb : ¬ z_C_holds (sI (layb p)) (nI u) = 0 → layb p u = true := fun c => by rw [eh, bI_0] at c; simpa using c
      refine sg_W_fill_30_6_9_42 M1 _ _ (fun c => absurd c (lt16 hu)) (fun _ => vp_in_nI hu (by decide)) (fun _ c => same (by rw [eh, bI_0] at c; exact c)) (fun _ c c2 => ?_) (fun _ c _ c2 => ?_) (fun _ c _ _ => ?_) (fun _ c _ _ => ?_)
      · obtain ⟨e1, e2⟩ := ehh (lb c)
        rw [e1] at c2
        have := (nI_le0 (by omega)).mp c2
        omega
      · obtain ⟨e1, e2⟩ := ehh (lb c)
        rw [e1] at c2
        exact absurd c2 (Int32.not_le.mpr (nI_lt (b := 11) (by omega) (by decide)))
      · obtain ⟨e1, e2⟩ := ehh (lb c)
        rw [e1]
        exact vp_in_nI (by omega) (by decide)
      · obtain ⟨e1, e2⟩ := ehh (lb c)
        have hl := lb c
        rw [e1, nI_clamp (by omega), nI_1, sI_one hu, h1 _ (by omega), sI_or]
        refine ih _ (fun t ht => ?_) (fun q hq => by rw [wr_ne _ hq]; exact h2 q hq) h3
        rw [upd_row]
        by_cases et : t = h u + 1
        · rw [if_pos et]
          refine sI_ext fun k hk => ?_
          rw [if_neg (by omega), if_neg (by omega), et]
          by_cases e3 : k = u
          · rw [e3, hl]; simp
          · have : decide (k < u) = decide (k < u + 1) := by rw [Bool.eq_iff_iff, decide_eq_true_eq, decide_eq_true_eq]; omega
            rw [this, decide_eq_false e3, Bool.or_false]
        · rw [if_neg et, h1 t ht]
          refine sI_ext fun k hk => ?_
          by_cases e : t = 0
          · rw [if_pos e, if_pos e]
          · rw [if_neg e, if_neg e]
            by_cases e3 : k = u
            · rw [e3, decide_eq_false (p := h u + 1 = t) (fun q => et q.symm)]; simp
            · have : decide (k < u) = decide (k < u + 1) := by rw [Bool.eq_iff_iff, decide_eq_true_eq, decide_eq_true_eq]; omega
              rw [this]
  have loop1 : ∀ i, i ≤ 11 → ∀ M1 : Mem, (∀ t, t < i → M1.1 31 t = 0) → (∀ q, q ≠ 31 → M1.1 q = M.1 q) → M1.2 = M.2 → WX mi_W_fill 3 Q 8 [some (.ref 30), some (.ref 6), some (.ref 9), some (.int (sI (layb p))), some (.int (nI i)), none] [] M1 := by
    refine downN 11 (fun M1 h1 h2 h3 => ?_) (fun i hi ih M1 h1 h2 h3 => ?_)
    · have g : (11 : Int32) ≤ nI 11 := by decide
      refine sg_W_fill_30_6_9_8 M1 _ _ (fun _ => ?_) (fun c => absurd g c) (fun c => absurd g c)
      refine loop2 0 (by decide) _ (fun t ht => ?_) (fun q hq => by rw [wr_ne _ hq]; exact h2 q hq) h3
      rw [upd_row]
      by_cases e : t = 0
      · rw [if_pos e, h2 6 (by decide), hc.2.2.2.2]
        exact sI_ext fun k _ => by rw [if_pos e]
      · rw [if_neg e, h1 t ht]
        refine (sI_zero.mpr fun k _ => ?_).symm
        rw [if_neg e]
        simp
    · refine sg_W_fill_30_6_9_8 M1 _ _ (fun c => absurd c (Int32.not_le.mpr (nI_lt (b := 11) hi (by decide)))) (fun _ => vp_in_nI hi (by decide)) (fun _ => ?_)
      rw [nI_clamp (by omega), nI_1]
      refine ih _ (fun t ht => ?_) (fun q hq => by rw [wr_ne _ hq]; exact h2 q hq) h3
      rw [upd_row]
      by_cases e : t = i
      · rw [if_pos e]
      · rw [if_neg e]; exact h1 t (by omega)
  exact loop1 0 (by decide) M (fun t ht => absurd ht (Nat.not_lt_zero t)) (fun _ _ => rfl) rfl
theorem dry_thr {p : Pl} {k : Nat} (h : dry p k = true) : thr p k = true := by
  unfold dry at h
  simp only [Bool.and_eq_true] at h
  exact h.1
theorem wx_tierOf {p : Pl} {h : Nat → Nat} {M : Mem} {Q : Option Value → Mem → Prop} (hh : HtOk p h) (ht : TR p h M) {k : Nat} (hk : k < 16) (hQ : Q (some (.int (if dry p k = true then nI (lvl p h k) else -9))) M) : WX mi_W_tierOf 2 Q 0 [some (.ref 30), some (.int (nI k)), none] [] M := by
  refine sg_W_tierOf_30_0 M _ ?_
  have loop : ∀ t, t ≤ 11 → (∀ s, s < t → tS p h s k = false) → WX mi_W_tierOf 2 Q 2 [some (.ref 30), some (.int (nI k)), some (.int (nI t))] [] M := by
    refine downN 11 (fun hn => ?_) (fun t htt ih hn => ?_)
    · have g : (11 : Int32) ≤ nI 11 := by decide
      refine sg_W_tierOf_30_2 M _ _ (fun _ => ?_) (fun c => absurd g c) (fun c => absurd g c) (fun c => absurd g c)
      cases hd : dry p k with
      | false => rw [if_neg (by rw [hd]; decide)] at hQ; exact hQ
      | true =>
        have := hn (lvl p h k) (by have := lvl_le hh hk (dry_thr hd); omega)
        unfold tS at this
        rw [hd] at this
        simp at this
    · have e : z_C_holds (M.1 31 (nI t).toNatClampNeg) (nI k) = bI (tS p h t k) := by rw [nI_clamp (by omega), ht t htt, holds_sI hk]
      refine sg_W_tierOf_30_2 M _ _ (fun c => absurd c (Int32.not_le.mpr (nI_lt (b := 11) htt (by decide)))) (fun _ => vp_in_nI htt (by decide)) (fun _ c => ?_) (fun _ c => ?_)
      · rw [e, bI_0] at c
        rw [nI_1]
        refine ih (fun s hs => ?_)
        by_cases es : s = t
        · rw [es]; exact c
        · exact hn s (by omega)
      · rw [e, bI_0] at c
        have c' : tS p h t k = true := by simpa using c
        unfold tS at c'
        simp only [Bool.and_eq_true, decide_eq_true_eq] at c'
        rw [if_pos c'.1, c'.2] at hQ
        exact hQ
  exact loop 0 (by decide) (fun s hs => absurd hs (Nat.not_lt_zero s))
theorem and0 {S : Nat → Bool} {y : Int32} : sI S &&& y = 0 ↔ ∀ i, i < 16 → bt y i = true → S i = false := by
  constructor
  · intro h i hi hy
    have e : bt (sI S &&& y) i = bt 0 i := by rw [h]
    rw [b_and, b_0, bt_sI S (by omega), hy, decide_eq_true hi] at e
    simpa using e
  · intro h
    refine b_ext (fun i hi => ?_)
    rw [b_and, b_0, bt_sI S hi]
    by_cases hi' : i < 16
    · cases hy : bt y i with
      | false => simp
      | true => rw [h i hi' hy]; simp
    · simp [hi']
theorem fa0 : ∀ k, k < 16 → ∀ i, i < 16 → bt (shr (shl 1 (nI k)) 4) i = decide (i + 4 = k) := by decide +kernel
theorem fa1 : ∀ k, k < 16 → ∀ i, i < 16 → bt (shl (shl 1 (nI k)) 1) i = decide (i = k + 1) := by decide +kernel
theorem fa2 : ∀ k, k < 16 → ∀ i, i < 16 → bt (shl (shl 1 (nI k)) 4) i = decide (i = k + 4) := by decide +kernel
theorem bes_nb : ∀ k, k < 16 → ∀ j, j < 16 → bes (fun i => decide (i = k)) j = (decide (nb k 0 = some j) || decide (nb k 1 = some j) || decide (nb k 2 = some j) || decide (nb k 3 = some j)) := by decide +kernel
theorem bes_of {k w j : Nat} (hk : k < 16) (hw : w < 4) (h : nb k w = some j) : bes (fun i => decide (i = k)) j = true := by
  rw [bes_nb k hk j (nb_lt hk h)]
  have : w = 0 ∨ w = 1 ∨ w = 2 ∨ w = 3 := by omega
  rcases this with rfl | rfl | rfl | rfl <;> simp [h]
theorem of_bes {k j : Nat} (hk : k < 16) (hj : j < 16) (h : bes (fun i => decide (i = k)) j = true) : ∃ w, w < 4 ∧ nb k w = some j := by
  rw [bes_nb k hk j hj] at h
  simp only [Bool.or_eq_true, decide_eq_true_eq] at h
  rcases h with ((h | h) | h) | h
  · exact ⟨0, by decide, h⟩
  · exact ⟨1, by decide, h⟩
  · exact ⟨2, by decide, h⟩
  · exact ⟨3, by decide, h⟩
theorem nbT_of {p : Pl} {k w j : Nat} (h : nb k w = some j) (ht : thr p j = true) : nbT p k w = some j := by
  unfold nbT
  rw [h]
  dsimp only
  rw [if_pos ht]
theorem nb_0 {k j : Nat} (h : nb k 0 = some j) : j + 4 = k := by
  have h : (if 4 ≤ k then some (k - 4) else none) = some j := h
  split at h <;> cases h; omega
theorem nb_1 {k j : Nat} (h : nb k 1 = some j) : j = k + 1 := by
  have h : (if k % 4 ≠ 3 then some (k + 1) else none) = some j := h
  split at h <;> cases h; rfl
theorem nb_2 {k j : Nat} (h : nb k 2 = some j) : j = k + 4 := by
  have h : (if k < 12 then some (k + 4) else none) = some j := h
  split at h <;> cases h; rfl
theorem nb_3 {k j : Nat} (h : nb k 3 = some j) : j + 1 = k := by
  have h : (if k % 4 ≠ 0 then some (k - 1) else none) = some j := h
  split at h <;> cases h; omega
theorem nb_i0 {k w j : Nat} (hw : w < 4) (h : nb k w = some j) (e : j + 4 = k) : w = 0 := by
  have : w = 0 ∨ w = 1 ∨ w = 2 ∨ w = 3 := by omega
  rcases this with rfl | rfl | rfl | rfl
  · rfl
  · have := nb_1 h; omega
  · have := nb_2 h; omega
  · have := nb_3 h; omega
theorem nb_i1 {k w j : Nat} (hw : w < 4) (h : nb k w = some j) (e : j = k + 1) : w = 1 := by
  have : w = 0 ∨ w = 1 ∨ w = 2 ∨ w = 3 := by omega
  rcases this with rfl | rfl | rfl | rfl
  · have := nb_0 h; omega
  · rfl
  · have := nb_2 h; omega
  · have := nb_3 h; omega
theorem nb_i2 {k w j : Nat} (hw : w < 4) (h : nb k w = some j) (e : j = k + 4) : w = 2 := by
  have : w = 0 ∨ w = 1 ∨ w = 2 ∨ w = 3 := by omega
  rcases this with rfl | rfl | rfl | rfl
  · have := nb_0 h; omega
  · have := nb_1 h; omega
  · rfl
  · have := nb_3 h; omega
theorem wx_onward {p : Pl} {h : Nat → Nat} {M : Mem} {Q : Option Value → Mem → Prop} (hh : HtOk p h) (htr : TR p h M) {k : Nat} (hk : k < 16) (hd : dry p k = true) (hQ : Q (some (.int (eSl (nx p h k)))) M) : WX mi_W_onward 3 Q 0 [some (.ref 30), some (.int (nI k)), none, none, none, none] [] M := by
  refine sg_W_onward_30_0 M _ ?_
  refine wx_tierOf hh htr hk ?_
  rw [if_pos hd]
  refine sg_W_onward_30_12 M _ _ _ ?_
  have lk := lvl_le hh hk (dry_thr hd)
  rw [sI_one hk, beside_sI]
  have loop : ∀ t, t ≤ lvl p h k → (∀ w b, w < 4 → nbT p k w = some b → pL p b = false → t ≤ lvl p h b) → WX mi_W_onward 3 Q 16 [some (.ref 30), some (.int (nI k)), some (.int (sI (bes fun i => decide (i = k)))), some (.int (nI (lvl p h k))), some (.int (nI t)), none] [] M := by
    refine downN (lvl p h k) (fun hn => ?_) (fun t ht ih hn => ?_)
    · refine sg_W_onward_30_16 M _ _ _ _ (fun _ => ?_) (fun c => absurd (Int32.le_refl _) c) (fun c => absurd (Int32.le_refl _) c) (fun c => absurd (Int32.le_refl _) c) (fun c => absurd (Int32.le_refl _) c)
      cases hf : nx p h k with
      | none => rw [hf] at hQ; exact hQ
      | some f =>
        obtain ⟨a1, w, a2, a3, a4, -⟩ := fdN_some 4 f hf
        have := hn w f a2 a3 a4
        omega
    · have nle : ¬ nI (lvl p h k) ≤ nI t := fun c => by
        have := (nI_le_iff (by omega) (by omega)).mp c
        omega
      have es : sI (bes fun i => decide (i = k)) &&& M.1 31 (nI t).toNatClampNeg = sI (fun j => bes (fun i => decide (i = k)) j && tS p h t j) := by rw [nI_clamp (by omega), htr t (by omega), sI_and]
      refine sg_W_onward_30_16 M _ _ _ _ (fun c => absurd c nle) (fun _ c => absurd c (Int32.not_le.mpr (nI_lt (b := 11) (by omega) (by decide)))) (fun _ _ => vp_in_nI (by omega) (by decide)) (fun _ _ c => ?_) (fun _ _ c => ?_)
      · rw [es, sI_zero] at c
        rw [nI_1]
        refine ih (fun w b hw hb hl => ?_)
        have h1 := hn w b hw hb hl
        have h2 := c b (nbT_lt hk hb)
        rw [bes_of hk hw (nbT_some hb).1] at h2
        unfold tS dry at h2
        rw [(nbT_some hb).2, hl] at h2
        have h3 : lvl p h b ≠ t := by simpa using h2
        omega
      · rw [es] at c ⊢
        -- one of them is in this tier
        have hex : ∃ j, j < 16 ∧ (bes (fun i => decide (i = k)) j && tS p h t j) = true := by
          refine Decidable.byContradiction (fun q => c (sI_zero.mpr (fun j hj => ?_)))
          cases hS : (bes (fun i => decide (i = k)) j && tS p h t j) with
          | false => rfl
          | true => exact absurd ⟨j, hj, hS⟩ q
        obtain ⟨j, hj, hS⟩ := hex
        simp only [Bool.and_eq_true] at hS
        obtain ⟨w1, hw1, hnb1⟩ := of_bes hk hj hS.1
        have hS2 := hS.2
        unfold tS at hS2
        simp only [Bool.and_eq_true, decide_eq_true_eq] at hS2
        have jt := dry_thr hS2.1
        have jl : pL p j = false := by have := hS2.1; unfold dry at this; simp only [Bool.and_eq_true] at this; simpa using this.2
        cases hf : nx p h k with
        | none =>
          have := fdN_none 4 hf w1 j hw1 (nbT_of hnb1 jt) jl
          omega
        | some f =>
          rw [hf] at hQ
          obtain ⟨a1, w, a2, a3, a4, a5⟩ := fdN_some 4 f hf
          have f1 := (a5 w1 j hw1 (nbT_of hnb1 jt) jl).1
          have f2 := hn w f a2 a3 a4
          have ft : lvl p h f = t := by omega
          have ff := fdN_ok hk hf
          have fS : (bes (fun i => decide (i = k)) f && tS p h t f) = true := by
            rw [bes_of hk a2 (nbT_some a3).1]
            unfold tS
            rw [ff.2.1, decide_eq_true ft]
            rfl
          -- a way before that of f is not in this tier
          have before : ∀ v b, v < w → nb k v = some b → (bes (fun i => decide (i = k)) b && tS p h t b) = false := by
            intro v b hv hb
            cases hq : (bes (fun i => decide (i = k)) b && tS p h t b) with
            | false => rfl
            | true =>
              simp only [Bool.and_eq_true] at hq
              have q2 := hq.2
              unfold tS at q2
              simp only [Bool.and_eq_true, decide_eq_true_eq] at q2
              have bl : pL p b = false := by have := q2.1; unfold dry at this; simp only [Bool.and_eq_true] at this; simpa using this.2
              have := (a5 v b (by omega) (nbT_of hb (dry_thr q2.1)) bl).2 hv
              omega
          have nS : ∀ b, b < 16 → (∀ v, v < 4 → nb k v = some b → v < w) → (bes (fun i => decide (i = k)) b && tS p h t b) = false := by
            intro b hb hv
            cases hq : bes (fun i => decide (i = k)) b with
            | false => rfl
            | true =>
              obtain ⟨v, hv4, hvb⟩ := of_bes hk hb hq
              have := before v b (hv v hv4 hvb) hvb
              rw [hq] at this
              exact this
          have en := (nbT_some a3).1
          have efa : z_W_firstAround (nI k) (sI (fun j => bes (fun i => decide (i = k)) j && tS p h t j)) = nI f := by
            unfold z_W_firstAround
            have w4 : w = 0 ∨ w = 1 ∨ w = 2 ∨ w = 3 := by omega
            have z0 : 0 < w → sI (fun j => bes (fun i => decide (i = k)) j && tS p h t j) &&& shr (shl 1 (nI k)) 4 = 0 := fun hw0 => and0.mpr (fun i hi hb => by
              rw [fa0 k hk i hi, decide_eq_true_eq] at hb
              exact nS i hi (fun v hv hvb => by rw [nb_i0 hv hvb hb]; exact hw0))
            have z1 : 1 < w → sI (fun j => bes (fun i => decide (i = k)) j && tS p h t j) &&& shl (shl 1 (nI k)) 1 = 0 := fun hw0 => and0.mpr (fun i hi hb => by
              rw [fa1 k hk i hi, decide_eq_true_eq] at hb
              exact nS i hi (fun v hv hvb => by rw [nb_i1 hv hvb hb]; exact hw0))
            have z2 : 2 < w → sI (fun j => bes (fun i => decide (i = k)) j && tS p h t j) &&& shl (shl 1 (nI k)) 4 = 0 := fun hw0 => and0.mpr (fun i hi hb => by
              rw [fa2 k hk i hi, decide_eq_true_eq] at hb
              exact nS i hi (fun v hv hvb => by rw [nb_i2 hv hvb hb]; exact hw0))
            have has : ∀ y, bt y f = true → ¬ sI (fun j => bes (fun i => decide (i = k)) j && tS p h t j) &&& y = 0 := fun y hy q => by
              have := and0.mp q f ff.1 hy
              rw [fS] at this
              cases this
            rcases w4 with rfl | rfl | rfl | rfl
            · have e := nb_0 en
              rw [if_neg (has _ (by rw [fa0 k hk f ff.1, decide_eq_true_eq]; exact e)), show (4 : Int32) = nI 4 from rfl, nI_subn (by omega) (by omega)]
              congr 1
              omega
            · have e := nb_1 en
              rw [if_pos (z0 (by decide)), if_neg (has _ (by rw [fa1 k hk f ff.1, decide_eq_true_eq]; exact e)), nI_1, e]
            · have e := nb_2 en
              rw [if_pos (z0 (by decide)), if_pos (z1 (by decide)), if_neg (has _ (by rw [fa2 k hk f ff.1, decide_eq_true_eq]; exact e)), show (4 : Int32) = nI 4 from rfl, nI_add, e]
            · have e := nb_3 en
              rw [if_pos (z0 (by decide)), if_pos (z1 (by decide)), if_pos (z2 (by decide)), ← e]
              exact nI_pred f
          rw [efa]
          exact hQ
  exact loop 0 (Nat.zero_le _) (fun _ _ _ _ _ => Nat.zero_le _)
