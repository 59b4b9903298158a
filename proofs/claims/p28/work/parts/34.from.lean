/-! ===== puddles, from; printed by wip/gen/p34.py ===== -/
theorem bes_iff {f : Nat → Bool} {k : Nat} : bes f k = true ↔ ∃ w b, w < 4 ∧ nb k w = some b ∧ f b = true := by
  unfold bes
  simp only [Bool.or_eq_true, Bool.and_eq_true, decide_eq_true_eq]
  constructor
  · rintro (((h | h) | h) | h)
    · exact ⟨0, k - 4, by decide, by show (if 4 ≤ k then some (k - 4) else none) = _; rw [if_pos h.1], h.2⟩
    · exact ⟨2, k + 4, by decide, by show (if k < 12 then some (k + 4) else none) = _; rw [if_pos h.1], h.2⟩
    · exact ⟨3, k - 1, by decide, by show (if k % 4 ≠ 0 then some (k - 1) else none) = _; rw [if_pos h.1], h.2⟩
    · exact ⟨1, k + 1, by decide, by show (if k % 4 ≠ 3 then some (k + 1) else none) = _; rw [if_pos h.1], h.2⟩
  · rintro ⟨w, b, hw, hb, hf⟩
    have : w = 0 ∨ w = 1 ∨ w = 2 ∨ w = 3 := by omega
    rcases this with rfl | rfl | rfl | rfl
    · have hb : (if 4 ≤ k then some (k - 4) else none) = some b := hb
      split at hb
      · cases hb; exact Or.inl (Or.inl (Or.inl ⟨by assumption, hf⟩))
      · cases hb
    · have hb : (if k % 4 ≠ 3 then some (k + 1) else none) = some b := hb
      split at hb
      · cases hb; exact Or.inr ⟨by assumption, hf⟩
      · cases hb
    · have hb : (if k < 12 then some (k + 4) else none) = some b := hb
      split at hb
      · cases hb; exact Or.inl (Or.inl (Or.inr ⟨by assumption, hf⟩))
      · cases hb
    · have hb : (if k % 4 ≠ 0 then some (k - 1) else none) = some b := hb
      split at hb
      · cases hb; exact Or.inl (Or.inr ⟨by assumption, hf⟩)
      · cases hb
theorem dry_lid {p : Pl} {k : Nat} (h : dry p k = true) : pL p k = false := by
  unfold dry at h
  simp only [Bool.and_eq_true] at h
  simpa using h.2
theorem dry_of {p : Pl} {k : Nat} (h1 : thr p k = true) (h2 : pL p k = false) : dry p k = true := by unfold dry; rw [h1, h2]; rfl
/-- lower ones beside a cell, or none -/
theorem bes_nx {p : Pl} {h : Nat → Nat} {k : Nat} : bes (fun j => dry p j && decide (lvl p h j < lvl p h k)) k = (nx p h k).isSome := by
  rw [Bool.eq_iff_iff, bes_iff]
  constructor
  · rintro ⟨w, b, hw, hb, hf⟩
    simp only [Bool.and_eq_true, decide_eq_true_eq] at hf
    cases e : nx p h k with
    | some j => rfl
    | none =>
      have := fdN_none 4 e w b hw (nbT_of hb (dry_thr hf.1)) (dry_lid hf.1)
      omega
  · intro hs
    obtain ⟨f, hf⟩ := Option.isSome_iff_exists.mp hs
    obtain ⟨a1, w, a2, a3, a4, -⟩ := fdN_some 4 f hf
    refine ⟨w, f, a2, (nbT_some a3).1, ?_⟩
    rw [dry_of (nbT_some a3).2 a4, decide_eq_true a1]
    rfl
/-- a cell on which a drop stays -/
def pud (p : Pl) (h : Nat → Nat) (k : Nat) : Bool := dry p k && !pD p k && !(nx p h k).isSome
theorem lvl0 {p : Pl} {h : Nat → Nat} {k : Nat} : lvl p h k = 0 ↔ pD p k = true := by
  unfold lvl
  cases pD p k with
  | true => rw [if_pos rfl]; simp
  | false => rw [if_neg (by decide)]; simp
theorem wx_puddles {p : Pl} {h : Nat → Nat} {M : Mem} {Q : Option Value → Mem → Prop} (hh : HtOk p h) (htr : TR p h M) (hQ : Q (some (.int (sI (pud p h)))) M) : WX mi_W_puddles 2 Q 0 [some (.ref 30), none, none, none] [] M := by
  refine sg_W_puddles_30_0 M ?_
  have loop : ∀ t, t ≤ 11 → 1 ≤ t → WX mi_W_puddles 2 Q 11 [some (.ref 30), some (.int (sI (fun k => decide (lvl p h k < t) && pud p h k))), some (.int (sI (fun k => dry p k && decide (lvl p h k < t)))), some (.int (nI t))] [] M := by
    refine downN 11 (fun _ => ?_) (fun t ht ih h1 => ?_)
    · have g : (11 : Int32) ≤ nI 11 := by decide
      refine sg_W_puddles_30_11 M _ _ _ (fun _ => ?_) (fun c => absurd g c) (fun c => absurd g c)
      have e : sI (fun k => decide (lvl p h k < 11) && pud p h k) = sI (pud p h) := sI_ext fun k hk => by
        cases hp : pud p h k with
        | false => simp
        | true =>
          unfold pud at hp
          simp only [Bool.and_eq_true] at hp
          have := lvl_le hh hk (dry_thr hp.1.1)
          simp
          omega
      rw [e]
      exact hQ
    · refine sg_W_puddles_30_11 M _ _ _ (fun c => absurd c (Int32.not_le.mpr (nI_lt (b := 11) ht (by decide)))) (fun _ => vp_in_nI ht (by decide)) (fun _ => ?_)
      rw [nI_clamp (by omega), htr t ht, beside_sI, sI_diff, sI_or, sI_or, nI_1]
      have e1 : sI (fun k => (decide (lvl p h k < t) && pud p h k) || (tS p h t k && !bes (fun k => dry p k && decide (lvl p h k < t)) k)) = sI (fun k => decide (lvl p h k < t + 1) && pud p h k) := sI_ext fun k hk => by
        unfold tS
        by_cases e : lvl p h k = t
        · rw [← e, bes_nx, decide_eq_false (Nat.lt_irrefl _), decide_eq_true (rfl : lvl p h k = lvl p h k), decide_eq_true (show lvl p h k < lvl p h k + 1 by omega)]
          unfold pud
          have hnd : pD p k = false := by
            cases q : pD p k with
            | false => rfl
            | true =>
              have := (lvl0 (h := h)).mpr q
              omega
          rw [hnd]
          simp
        · rw [decide_eq_false e]
          have : decide (lvl p h k < t) = decide (lvl p h k < t + 1) := decide_eq_decide.mpr (by omega)
          rw [this]
          simp
      have e2 : sI (fun k => (dry p k && decide (lvl p h k < t)) || tS p h t k) = sI (fun k => dry p k && decide (lvl p h k < t + 1)) := sI_ext fun k hk => by
        unfold tS
        cases dry p k with
        | false => rfl
        | true =>
          rw [Bool.eq_iff_iff]
          simp only [Bool.true_and, Bool.or_eq_true, decide_eq_true_eq]
          omega
      rw [e1, e2]
      exact ih (by omega)
  have h1 := loop 1 (by decide) (Nat.le_refl 1)
  have e1 : sI (fun k => decide (lvl p h k < 1) && pud p h k) = 0 := sI_zero.mpr (fun k hk => by
    by_cases e : lvl p h k = 0
    · unfold pud
      rw [lvl0.mp e]
      simp
    · rw [decide_eq_false (by omega)]; rfl)
  have e2 : sI (fun k => dry p k && decide (lvl p h k < 1)) = M.1 31 0 := by
    rw [htr 0 (by decide)]
    refine sI_ext fun k _ => ?_
    unfold tS
    have : decide (lvl p h k < 1) = decide (lvl p h k = 0) := decide_eq_decide.mpr (by omega)
    rw [this]
  rw [e1, e2] at h1
  exact h1
