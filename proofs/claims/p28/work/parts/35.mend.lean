/-! ===== mend ===== -/
abbrev Md : Type := Option (Nat × Nat × Nat) × Nat
def hset (h : Nat → Nat) (k v : Nat) : Nat → Nat := fun j => if j = k then v else h j
def dst (a b : Nat) : Nat := if a ≤ b then b - a else a - b
def pcn (p : Pl) (h : Nat → Nat) : Nat := cntB (pud p h) 16
def upm (n k v d : Nat) (s : Md) : Md := if n < s.2 then (some (k, v, d), n) else if n = s.2 then (match s.1 with
  | none => s
  | some f => if d < f.2.2 then (some (k, v, d), n) else s) else s
def innM (p : Pl) (h : Nat → Nat) (k : Nat) : Nat → Md → Md
  | 0, s => s
  | v + 1, s => if v = h k then innM p h k v s else upm (pcn p (hset h k v)) k v (dst (h k) v) (innM p h k v s)
def outM (p : Pl) (h : Nat → Nat) : Nat → Md
  | 0 => (none, pcn p h)
  | u + 1 => if dry p u = true ∧ pD p u = false then innM p h u 10 (outM p h u) else outM p h u
def MI (b : Nat) (s : Md) : Prop := s.2 ≤ b ∧ (∀ f, s.1 = some f → s.2 < b ∧ f.1 < 16 ∧ f.2.1 ≤ 9 ∧ f.2.2 ≤ 9)
theorem upm_MI {b n k v d : Nat} {s : Md} (hs : MI b s) (hk : k < 16) (hv : v ≤ 9) (hd : d ≤ 9) : MI b (upm n k v d s) := by
  unfold upm
  by_cases h1 : n < s.2
  · rw [if_pos h1]
    have := hs.1
    exact ⟨by show n ≤ b; omega, fun f hf => by cases hf; exact ⟨by show n < b; omega, hk, hv, hd⟩⟩
  · rw [if_neg h1]
    by_cases h2 : n = s.2
    · rw [if_pos h2]
      obtain ⟨o, l⟩ := s
      cases o with
      | none => exact hs
      | some f =>
        dsimp only
        by_cases h3 : d < f.2.2
        · rw [if_pos h3]
          have h4 := (hs.2 f rfl).1
          have h2 : n = l := h2
          have h4 : l < b := h4
          exact ⟨by show n ≤ b; omega, fun f hf => by cases hf; exact ⟨by show n < b; omega, hk, hv, hd⟩⟩
        · rw [if_neg h3]; exact hs
    · rw [if_neg h2]; exact hs
theorem dst_le {a b : Nat} (ha : a ≤ 9) (hb : b ≤ 9) : dst a b ≤ 9 := by unfold dst; split <;> omega
theorem innM_MI {p : Pl} {h : Nat → Nat} {k b : Nat} (hk : k < 16) (hh : h k ≤ 9) : ∀ v s, v ≤ 10 → MI b s → MI b (innM p h k v s)
  | 0, _, _, hs => hs
  | v + 1, s, hv, hs => by
    have ih := innM_MI (p := p) hk hh v s (by omega) hs
    show MI b (if v = h k then innM p h k v s else upm (pcn p (hset h k v)) k v (dst (h k) v) (innM p h k v s))
    by_cases e : v = h k
    · rw [if_pos e]; exact ih
    · rw [if_neg e]; exact upm_MI ih hk (by omega) (dst_le hh (by omega))
theorem outM_MI {p : Pl} {h : Nat → Nat} (hh : HtOk p h) : ∀ u, u ≤ 16 → MI (pcn p h) (outM p h u)
  | 0, _ => ⟨Nat.le_refl _, fun f hf => by cases hf⟩
  | u + 1, hu => by
    have ih := outM_MI hh u (by omega)
    show MI _ (if dry p u = true ∧ pD p u = false then innM p h u 10 (outM p h u) else outM p h u)
    by_cases e : dry p u = true ∧ pD p u = false
    · rw [if_pos e]; exact innM_MI (by omega) (hh u (by omega) (dry_thr e.1)) 10 _ (Nat.le_refl _) ih
    · rw [if_neg e]; exact ih
theorem pcn_le (p : Pl) (h : Nat → Nat) : pcn p h ≤ 16 := cntB_le _ _
/-- at its own height nothing changes -/
theorem upm_own {b k v d : Nat} {s : Md} (hs : MI b s) (hd : d = 0) : upm b k v d s = s := by
  unfold upm
  rw [if_neg (by have := hs.1; omega)]
  by_cases h2 : b = s.2
  · rw [if_pos h2]
    obtain ⟨o, l⟩ := s
    cases o with
    | none => rfl
    | some f =>
      have := (hs.2 f rfl).1
      dsimp only
      rw [if_neg (by omega)]
  · rw [if_neg h2]
theorem hset_own (h : Nat → Nat) (k : Nat) : hset h k (h k) = h := by
  funext j
  unfold hset
  by_cases e : j = k
  · rw [if_pos e, e]
  · rw [if_neg e]
def eF0 (s : Md) : Int32 := match s.1 with
  | some f => nI f.1
  | none => -9
def eF1 (s : Md) : Int32 := match s.1 with
  | some f => nI f.2.1
  | none => -9
def eF2 (s : Md) : Int32 := match s.1 with
  | some f => nI f.2.1
  | none => 0
def eF3 (s : Md) : Int32 := match s.1 with
  | some f => nI f.2.2
  | none => 0
def CM (s : Md) (M : Mem) : Prop := M.1 32 0 = eF0 s ∧ M.1 32 1 = eF1 s ∧ M.1 32 2 = nI s.2 ∧ M.1 32 3 = eF3 s
theorem nI_ge0 {n : Nat} (h : n < 2 ^ 31) : (0 : Int32) ≤ nI n := by
  rw [Int32.le_iff_toInt_le, nI_toInt h, show (0 : Int32).toInt = 0 from rfl]
  omega
theorem wx_weigh {b n k v d : Nat} {s : Md} {M : Mem} {Q : Option Value → Mem → Prop} (hb : b ≤ 16) (hs : MI b s) (hc : CM s M) (hn : n ≤ 16) (hd : d ≤ 9) (hQ : ∀ M', CM (upm n k v d s) M' → (∀ q, q ≠ 32 → M'.1 q = M.1 q) → M'.2 = M.2 → Q none M') : WX mi_E_weigh 1 Q 0 [some (.ref 32), some (.int (nI n)), some (.int (nI k)), some (.int (nI v)), some (.int (nI d))] [] M := by
  obtain ⟨c0, c1, c2, c3⟩ := hc
  have hl := hs.1
  have wrt : ∀ M', M' = wr (wr (wr (wr M 32 0 (nI k)) 32 1 (nI v)) 32 2 (nI n)) 32 3 (nI d) → upm n k v d s = (some (k, v, d), n) → Q none M' := by
    intro M' hM hu
    rw [hu] at hQ
    subst hM
    exact hQ _ ⟨by simp [wr, eF0], by simp [wr, eF1], by simp [wr], by simp [wr, eF3]⟩ (fun q hq => by rw [wr_ne _ hq, wr_ne _ hq, wr_ne _ hq, wr_ne _ hq]) rfl
  refine sg_E_weigh_32_0 M _ _ _ _ (fun c => ?_) (fun c1' c2' => ?_) (fun c1' c2' c3' => ?_) (fun c1' c2' c3' => ?_)
  · rw [c2] at c
    have := (nI_lt_iff (by omega) (by omega)).mp c
    exact wrt _ rfl (by unfold upm; rw [if_pos this])
  · rw [c2] at c1' c2'
    have h1 : ¬ n < s.2 := fun q => c1' ((nI_lt_iff (by omega) (by omega)).mpr q)
    have h2 : ¬ n = s.2 := fun q => c2' (by rw [q])
    have e : upm n k v d s = s := by unfold upm; rw [if_neg h1, if_neg h2]
    rw [e] at hQ
    exact hQ M ⟨c0, c1, c2, c3⟩ (fun _ _ => rfl) rfl
  · rw [c2] at c1' c2'
    have h1 : ¬ n < s.2 := fun q => c1' ((nI_lt_iff (by omega) (by omega)).mpr q)
    have h2 : n = s.2 := (nI_eq (by omega) (by omega)).mp c2'
    have e : upm n k v d s = s := by
      unfold upm
      rw [if_neg h1, if_pos h2]
      cases ho : s.1 with
      | none => rfl
      | some f =>
        dsimp only
        rw [c3] at c3'
        have hf := hs.2 f ho
        unfold eF3 at c3'
        rw [ho] at c3'
        have := (nI_le_iff (by omega) (by omega)).mp c3'
        rw [if_neg (by omega)]
    rw [e] at hQ
    exact hQ M ⟨c0, c1, c2, c3⟩ (fun _ _ => rfl) rfl
  · rw [c2] at c1' c2'
    have h1 : ¬ n < s.2 := fun q => c1' ((nI_lt_iff (by omega) (by omega)).mpr q)
    have h2 : n = s.2 := (nI_eq (by omega) (by omega)).mp c2'
    rw [c3] at c3'
    refine wrt _ rfl ?_
    unfold upm
    rw [if_neg h1, if_pos h2]
    cases ho : s.1 with
    | none =>
      unfold eF3 at c3'
      rw [ho] at c3'
      exact absurd (nI_ge0 (by omega)) c3'
    | some f =>
      dsimp only
      have hf := hs.2 f ho
      unfold eF3 at c3'
      rw [ho] at c3'
      have : d < f.2.2 := Nat.lt_of_not_le (fun q => c3' ((nI_le_iff (by omega) (by omega)).mpr q))
      rw [if_pos this]
theorem tS_set {p : Pl} {h : Nat → Nat} {k v : Nat} (hd : dry p k = true) (hn : pD p k = false) (i j : Nat) : tS p (hset h k v) i j = ((tS p h i j && !decide (j = k)) || (decide (j = k) && decide (i = v + 1))) := by
  unfold tS lvl hset
  by_cases e : j = k
  · subst e
    rw [hd, hn, if_pos rfl, decide_eq_true (rfl : j = j)]
    have : decide (v + 1 = i) = decide (i = v + 1) := decide_eq_decide.mpr eq_comm
    simp [this]
  · rw [if_neg e, decide_eq_false e]
    simp
theorem tS_own {p : Pl} {h : Nat → Nat} {k : Nat} (hd : dry p k = true) (hn : pD p k = false) (i j : Nat) : tS p h i j = ((tS p h i j && !decide (j = k)) || (decide (j = k) && decide (i = h k + 1))) := by
  have := tS_set (h := h) (v := h k) hd hn i j
  rw [hset_own] at this
  exact this
theorem abs_d : ∀ a, a < 10 → ∀ v, v < 10 → (if 0 ≤ (nI (v + 1) - nI (a + 1)) then (nI (v + 1) - nI (a + 1)) else 0 - (nI (v + 1) - nI (a + 1))) = nI (dst a v) := by decide +kernel
theorem hset_ok {p : Pl} {h : Nat → Nat} {k v : Nat} (hh : HtOk p h) (hv : v ≤ 9) : HtOk p (hset h k v) := by
  intro j hj ht
  unfold hset
  split
  · exact hv
  · exact hh j hj ht
theorem wx_tryHeights {p : Pl} {h : Nat → Nat} {b k : Nat} {s : Md} {M : Mem} {Q : Option Value → Mem → Prop} (hh : HtOk p h) (hk : k < 16) (hd : dry p k = true) (hn : pD p k = false) (hb : b ≤ 16) (hs : MI b s) (ht : TR p h M) (hc : CM s M)
    (hQ : ∀ M', TR p h M' → CM (innM p h k 10 s) M' → (∀ q, q ≠ 31 → q ≠ 32 → M'.1 q = M.1 q) → M'.2 = M.2 → Q none M') : WX mi_E_tryHeights 3 Q 0 [some (.ref 32), some (.ref 30), some (.int (nI k)), some (.int (nI (h k + 1))), none, none] [] M := by
  have h9 := hh k hk (dry_thr hd)
  refine sg_E_tryHeights_32_30_0 M _ _ (vp_in_nI (by omega) (by decide)) ?_
  rw [nI_clamp (by omega), sI_one hk, ht _ (by omega), sI_diff]
  have loop : ∀ v, v ≤ 10 → ∀ M1 : Mem, (∀ i, i < 11 → M1.1 31 i = sI (fun j => tS p h i j && !decide (j = k))) → CM (innM p h k v s) M1 → (∀ q, q ≠ 31 → q ≠ 32 → M1.1 q = M.1 q) → M1.2 = M.2 → WX mi_E_tryHeights 3 Q 21 [some (.ref 32), some (.ref 30), some (.int (nI k)), some (.int (nI (h k + 1))), some (.int (sI (fun j => decide (j = k)))), some (.int (nI (v + 1)))] [] M1 := by
    refine downN 10 (fun M1 h1 h2 h3 h4 => ?_) (fun v hv ih M1 h1 h2 h3 h4 => ?_)
    · have g : (11 : Int32) ≤ nI (10 + 1) := by decide
      refine sg_E_tryHeights_32_30_21 M1 _ _ _ _ (fun _ => vp_in_nI (by omega) (by decide)) (fun _ => ?_) (fun c => absurd g c) (fun c => absurd g c) (fun c => absurd g c)
      rw [nI_clamp (by omega), h1 _ (by omega), sI_or]
      refine hQ _ (fun i hi => ?_) ?_ (fun q a b => by rw [wr_ne _ a]; exact h3 q a b) h4
      · rw [upd_row]
        by_cases e : i = h k + 1
        · rw [if_pos e, e]
          refine sI_ext fun j _ => ?_
          rw [tS_own hd hn (h k + 1) j]
          by_cases ej : j = k
          · simp [ej]
          · simp [ej]
        · rw [if_neg e, h1 i hi]
          refine sI_ext fun j _ => ?_
          rw [tS_own hd hn i j, decide_eq_false e]
          simp
      · unfold CM at h2 ⊢
        rw [wr_ne _ (by decide)]
        exact h2
    · have g : ¬ (11 : Int32) ≤ nI (v + 1) := Int32.not_le.mpr (nI_lt (b := 11) (by omega) (by decide))
      refine sg_E_tryHeights_32_30_21 M1 _ _ _ _ (fun c => absurd c g) (fun c => absurd c g) (fun _ c => ?_) (fun _ _ => vp_in_nI (by omega) (by decide)) (fun _ c => ?_)
      · have e := (nI_eq (by omega) (by omega)).mp c
        have e2 : innM p h k (v + 1) s = innM p h k v s := by
          show (if v = h k then innM p h k v s else _) = _
          rw [if_pos (by omega)]
        rw [nI_1]
        exact ih M1 h1 (by rw [e2]; exact h2) h3 h4
      · have ne : ¬ v = h k := fun q => c (by rw [q])
        have e2 : innM p h k (v + 1) s = upm (pcn p (hset h k v)) k v (dst (h k) v) (innM p h k v s) := by
          show (if v = h k then innM p h k v s else _) = _
          rw [if_neg ne]
        rw [nI_clamp (by omega), h1 _ (by omega), sI_or]
        have htr2 : TR p (hset h k v) (wr M1 31 (v + 1) (sI (fun j => (tS p h (v + 1) j && !decide (j = k)) || decide (j = k)))) := by
          intro i hi
          rw [upd_row]
          by_cases e : i = v + 1
          · rw [if_pos e, e]
            refine sI_ext fun j _ => ?_
            rw [tS_set hd hn]
            simp
          · rw [if_neg e, h1 i hi]
            refine sI_ext fun j _ => ?_
            rw [tS_set hd hn, decide_eq_false e]
            simp
        refine wx_puddles (hset_ok hh (by omega)) htr2 ?_
        refine sg_E_tryHeights_32_30_51 _ _ _ _ _ _ ?_
        rw [bitCount_sI, nI_pred, abs_d (h k) (by omega) v (by omega)]
        refine wx_weigh hb (innM_MI (p := p) hk h9 v s (by omega) hs) (?_) (pcn_le p (hset h k v)) (dst_le h9 (by omega)) (fun M3 q1 q2 q3 => ?_)
        · unfold CM at h2 ⊢
          rw [wr_ne _ (by decide)]
          exact h2
        refine sg_E_tryHeights_32_30_69 M3 _ _ _ _ (vp_in_nI (by omega) (by decide)) ?_
        rw [nI_clamp (by omega), nI_1]
        have r31 : ∀ i, i < 11 → M3.1 31 i = sI (tS p (hset h k v) i) := fun i hi => by rw [q2 31 (by decide)]; exact htr2 i hi
        rw [r31 _ (by omega), sI_diff]
        refine ih _ (fun i hi => ?_) ?_ (fun q a b => by rw [wr_ne _ a, q2 q b, wr_ne _ a]; exact h3 q a b) (by show M3.2 = _; rw [q3]; exact h4)
        · rw [upd_row]
          by_cases e : i = v + 1
          · rw [if_pos e, e]
            refine sI_ext fun j _ => ?_
            rw [tS_set hd hn]
            by_cases ej : j = k
            · simp [ej]
            · simp [ej]
          · rw [if_neg e, r31 i hi]
            refine sI_ext fun j _ => ?_
            rw [tS_set hd hn, decide_eq_false e]
            simp
        · rw [e2]
          unfold CM at q1 ⊢
          rw [wr_ne _ (by decide)]
          exact q1
  refine loop 0 (by decide) _ (fun i hi => ?_) ?_ (fun q a b => wr_ne _ a) rfl
  · rw [upd_row]
    by_cases e : i = h k + 1
    · rw [if_pos e, e]
    · rw [if_neg e, ht i hi]
      refine sI_ext fun j _ => ?_
      rw [tS_own hd hn i j, decide_eq_false e]
      by_cases ej : j = k
      · simp [ej]
      · simp [ej]
  · unfold CM at hc ⊢
    rw [wr_ne _ (by decide)]
    exact hc
theorem wx_search {p : Pl} {h : Nat → Nat} {M : Mem} {Q : Option Value → Mem → Prop} (hh : HtOk p h) (ht : TR p h M)
    (hQ : ∀ M', CM (outM p h 16) M' → (∀ q, q ≠ 31 → q ≠ 32 → M'.1 q = M.1 q) → M'.2 = M.2 → Q none M') : WX mi_E_search 4 Q 0 [some (.ref 32), some (.ref 30), none, none] [] M := by
  refine sg_E_search_32_30_0 M ?_
  refine wx_puddles (p := p) (h := h) hh (fun i hi => by rw [wr_ne _ (by decide), wr_ne _ (by decide), wr_ne _ (by decide)]; exact ht i hi) ?_
  refine sg_E_search_32_30_22 _ _ ?_
  rw [bitCount_sI]
  have loop : ∀ u, u ≤ 16 → ∀ M1 : Mem, TR p h M1 → CM (outM p h u) M1 → (∀ q, q ≠ 31 → q ≠ 32 → M1.1 q = M.1 q) → M1.2 = M.2 → WX mi_E_search 4 Q 30 [some (.ref 32), some (.ref 30), some (.int (nI u)), none] [] M1 := by
    refine downN 16 (fun M1 h1 h2 h3 h4 => ?_) (fun u hu ih M1 h1 h2 h3 h4 => ?_)
    · exact sg_E_search_32_30_30 M1 _ (fun _ => hQ M1 h2 h3 h4) (fun c => absurd ge16 c)
    · refine sg_E_search_32_30_30 M1 _ (fun c => absurd c (lt16 hu)) (fun _ => ?_)
      refine wx_tierOf hh h1 hu ?_
      have mi := outM_MI hh u (by omega)
      by_cases e : dry p u = true ∧ pD p u = false
      · have e2 : outM p h (u + 1) = innM p h u 10 (outM p h u) := by show (if dry p u = true ∧ pD p u = false then _ else _) = _; rw [if_pos e]
        have el : lvl p h u = h u + 1 := by unfold lvl; rw [if_neg (by rw [e.2]; decide)]
        have h9 := hh u hu (dry_thr e.1)
        rw [if_pos e.1, el]
        refine sg_E_search_32_30_41 M1 _ _ (fun c => ?_) (fun _ c => absurd c (Int32.not_le.mpr (nI_lt (b := 11) (by omega) (by decide)))) (fun _ _ => ?_)
        · have := (nI_le0 (by omega)).mp c
          omega
        · refine wx_tryHeights hh hu e.1 e.2 (pcn_le p h) mi h1 h2 (fun M2 q1 q2 q3 q4 => ?_)
          refine sg_E_search_32_30_59 M2 _ _ ?_
          rw [nI_1]
          exact ih M2 q1 (by rw [e2]; exact q2) (fun q a b => (q3 q a b).trans (h3 q a b)) (q4.trans h4)
      · have e2 : outM p h (u + 1) = outM p h u := by show (if dry p u = true ∧ pD p u = false then _ else _) = _; rw [if_neg e]
        have le0 : (if dry p u = true then nI (lvl p h u) else -9) ≤ 0 := by
          by_cases hd : dry p u = true
          · have hD : pD p u = true := by
              cases q : pD p u with
              | true => rfl
              | false => exact absurd ⟨hd, q⟩ e
            rw [if_pos hd, lvl0.mpr hD]
            decide
          · rw [if_neg hd]; decide
        refine sg_E_search_32_30_41 M1 _ _ (fun _ => ?_) (fun c => absurd le0 c) (fun c => absurd le0 c)
        rw [nI_1]
        exact ih M1 h1 (by rw [e2]; exact h2) h3 h4
  refine loop 0 (by decide) _ (fun i hi => by rw [wr_ne _ (by decide), wr_ne _ (by decide), wr_ne _ (by decide), wr_ne _ (by decide)]; exact ht i hi) ⟨by simp [wr]; rfl, by simp [wr]; rfl, by simp [wr]; rfl, by simp [wr]; rfl⟩ (fun q a b => by rw [wr_ne _ b, wr_ne _ b, wr_ne _ b, wr_ne _ b]) rfl
