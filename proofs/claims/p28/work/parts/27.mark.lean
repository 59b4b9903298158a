/-! ===== neighbours; mark ===== -/
theorem nb_lt {k w j : Nat} (hk : k < 16) (h : nb k w = some j) : j < 16 := by
  unfold nb at h
  split at h
  · split at h <;> cases h; omega
  · split at h
    · split at h <;> cases h; omega
    · split at h
      · split at h <;> cases h; omega
      · split at h <;> cases h; omega
theorem okc_m1y {p : Pl} (x : Int32) : okc p x (-1) = false := by
  unfold okc
  rw [show (-1 : Int32).toInt = -1 from rfl]
  simp
theorem okc_m1x {p : Pl} (y : Int32) : okc p (-1) y = false := by
  unfold okc
  rw [show (-1 : Int32).toInt = -1 from rfl]
  simp
theorem okc_4x {p : Pl} (hp : WfP p) (y : Int32) : okc p (nI 4) y = false := by
  have := hp.1
  unfold okc
  rw [nI_toInt (by decide), decide_eq_false (p := ((4 : Nat) : Int) < (pW p : Int)) (by omega)]
  simp
theorem okc_4y {p : Pl} (hp : WfP p) (x : Int32) : okc p x (nI 4) = false := by
  have := hp.2.1
  unfold okc
  rw [nI_toInt (by decide), decide_eq_false (p := ((4 : Nat) : Int) < (pR p : Int)) (by omega)]
  simp
theorem b_up : ∀ k, k < 16 → 4 ≤ k → (rem (nI k) 4 + 0 = nI ((k - 4) % 4) ∧ nI k / 4 + (-1) = nI ((k - 4) / 4)) := by decide +kernel
theorem b_up' : ∀ k, k < 16 → ¬ 4 ≤ k → nI k / 4 + (-1) = -1 := by decide +kernel
theorem b_rt : ∀ k, k < 16 → k % 4 ≠ 3 → (rem (nI k) 4 + 1 = nI ((k + 1) % 4) ∧ nI k / 4 + 0 = nI ((k + 1) / 4)) := by decide +kernel
theorem b_rt' : ∀ k, k < 16 → ¬ k % 4 ≠ 3 → rem (nI k) 4 + 1 = nI 4 := by decide +kernel
theorem b_dn : ∀ k, k < 16 → k < 12 → (rem (nI k) 4 + 0 = nI ((k + 4) % 4) ∧ nI k / 4 + 1 = nI ((k + 4) / 4)) := by decide +kernel
theorem b_dn' : ∀ k, k < 16 → ¬ k < 12 → nI k / 4 + 1 = nI 4 := by decide +kernel
theorem b_lf : ∀ k, k < 16 → k % 4 ≠ 0 → (rem (nI k) 4 + (-1) = nI ((k - 1) % 4) ∧ nI k / 4 + 0 = nI ((k - 1) / 4)) := by decide +kernel
theorem b_lf' : ∀ k, k < 16 → ¬ k % 4 ≠ 0 → rem (nI k) 4 + (-1) = -1 := by decide +kernel
theorem nbT_some {p : Pl} {k w j : Nat} (h : nbT p k w = some j) : nb k w = some j ∧ thr p j = true := by
  unfold nbT at h
  cases hn : nb k w with
  | none => rw [hn] at h; cases h
  | some i =>
    rw [hn] at h
    dsimp only at h
    by_cases ht : thr p i = true
    · rw [if_pos ht] at h; cases h; exact ⟨rfl, ht⟩
    · rw [if_neg ht] at h; cases h
theorem nbT_lt {p : Pl} {k w j : Nat} (hk : k < 16) (h : nbT p k w = some j) : j < 16 := nb_lt hk (nbT_some h).1
theorem cW_le (p : Pl) (k : Nat) : ∀ n, cW p k n ≤ n
  | 0 => Nat.le_refl 0
  | n + 1 => by
    have := cW_le p k n
    show cW p k n + (if (nbT p k n).isSome = true then 1 else 0) ≤ n + 1
    split <;> omega
theorem cnt_p {p : Pl} (hp : WfP p) {k : Nat} (hk : k < 16) : z_I_bitCount (sI (fun j => bes (fun i => decide (i = k)) j && thr p j)) = nI (cW p k 4) := by
  have h1 := hp.1
  have h2 := hp.2.1
  obtain ⟨W, R, L, D, O⟩ := p
  have h1 : W ≤ 4 := h1
  have h2 : R ≤ 4 := h2
  exact cnt_C W (by omega) R (by omega) k hk
theorem RC.trc {t : List Nat} {p : Pl} {gh : Gh} {im : Option Gh × Option Gh} {sn : List Nat} {tr : Int64} {M : Mem} (h : RC (t, p, gh, im, sn, tr) M) (tr' : Int64) : RC (t, p, gh, im, sn, tr') (wrL M 0 tr') ∧ FrC M (wrL M 0 tr') := by
  obtain ⟨g1, g2, g3, g4, g5, g6⟩ := h
  exact ⟨⟨g1, g2, g3, g4, g5, by simp [wrL]⟩, fun q hq => rfl, by simp [wrL]⟩
/-- the class's ways of marking a cell -/
theorem wx_markCell {k : Nat} (hk : k < 16) {M : Mem} {Q : Option Value → Mem → Prop} (hQ : Q (some (.int (M.1 10 k))) (wrL M 0 (M.2 0 + 1))) : WX mi_C_markCell 3 Q 0 [some (.ref 0), some (.int (nI k))] [] M := by
  refine sg_C_markCell_0_0 M _ (vp_in_nI hk (by decide)) ?_
  rw [nI_clamp (by omega)]
  exact hQ
theorem wrLL (M : Mem) (q : Nat) (a b : Int64) : wrL (wrL M q a) q b = wrL M q b := by
  unfold wrL
  congr 1
  funext r
  by_cases h : r = q
  · simp [h]
  · simp [h]
theorem wrL_at (M : Mem) (q : Nat) (a : Int64) : (wrL M q a).2 q = a := by simp [wrL]
theorem wx_markTrue {p : Pl} {k : Nat} (hp : WfP p) (hk : k < 16) {M : Mem} {Q : Option Value → Mem → Prop} (hm : RCp p M) (hQ : Q (some (.int (M.1 10 k + nI (cW p k 4)))) (wrL M 0 (M.2 0 + 11))) : WX mi_C_markTrue 4 Q 0 [some (.ref 0), some (.int (nI k))] [] M := by
  refine sg_C_markTrue_0_0 M _ ?_
  refine wx_markCell hk ?_
  refine sg_C_markTrue_0_17 _ _ _ ?_
  refine wx_cells hp hm ?_
  refine sg_C_markTrue_0_30 _ _ _ _ _ ?_
  rw [sI_one hk, beside_sI, sI_and, cnt_p hp hk, wrLL, wrL_at, Int64.add_assoc]
  exact hQ
theorem wx_markLow {k : Nat} (hk : k < 16) {M : Mem} {Q : Option Value → Mem → Prop} (hQ : Q (some (.int (M.1 10 k - nI (k % 4)))) (wrL M 0 (M.2 0 + 101))) : WX mi_C_markLow 4 Q 0 [some (.ref 0), some (.int (nI k))] [] M := by
  refine sg_C_markLow_0_0 M _ ?_
  refine wx_markCell hk ?_
  refine sg_C_markLow_0_17 _ _ _ ?_
  rw [remOf k hk, wrLL, wrL_at, Int64.add_assoc]
  exact hQ
/-- what mark answers, and what it adds -/
def mkA (p : Pl) (g : Gd) (k : Nat) (x : Int32) : Int32 := if x = 0 then nI (gHt g k) else if x = 1 then nI (gHt g k) + nI (cW p k 4) else if x = 2 then nI (gHt g k) - nI (k % 4) else if x = 3 then (nI (gHt g k) + nI (cW p k 4)) * 2 else if x = 4 then (nI (gHt g k) - nI (k % 4)) + nI (k / 4) else nI (gHt g k) + nI (gDy g)
def mkT (x : Int32) : Int64 := if x = 0 then 1 else if x = 1 then 11 else if x = 2 then 101 else if x = 3 then 1011 else if x = 4 then 10101 else 100001
theorem six_of {x : Int32} (h : 0 ≤ x ∧ x ≤ 5) : x = 0 ∨ x = 1 ∨ x = 2 ∨ x = 3 ∨ x = 4 ∨ x = 5 := by
  obtain ⟨j, hj, rfl⟩ := nI_of2 (n := 5) (by decide) (Int32.not_lt.mpr h.1) h.2
  have : j = 0 ∨ j = 1 ∨ j = 2 ∨ j = 3 ∨ j = 4 ∨ j = 5 := by omega
  rcases this with rfl | rfl | rfl | rfl | rfl | rfl <;> decide
