theorem k_barrow {B : Nat} {s : Sg} (v w : Int32) (hw : WfS B s) : ∃ (r : Int32), K1 mi_C_barrow 5 [.int v, .int w] s (.int r) := by
  obtain ⟨t, p, gh, im, sn, tr⟩ := s
  have hp : WfP p := hw.2.1
  have hg : WfG (B) p gh.1 := hw.2.2.1.1
  have hd : pO p < 16 := hp.2.2.2.2.1.1
  cases ho : okd p v w with
  | false =>
    refine ⟨-1, fun M Q hc hQ => ?_⟩
    · have hcg : RCg 9 p gh M := hc.2.2.1
      exact sg_C_barrow_0_0 M _ _ (fun c => absurd (by rw [isOpen_C hp hc.2.1, ho]; rfl) c) (fun _ => hQ M (fun _ _ _ => rfl) (fun _ _ => rfl) rfl)
  | true =>
    obtain ⟨k, hk, rfl, rfl, ht, hl⟩ := okd_cell hp ho
    have en : z_C_numberOf (nI (k % 4)) (nI (k / 4)) = nI k := numOf k hk
    have en' : (4 * nI (k / 4)) + nI (k % 4) = nI k := numOf' hk
    refine ⟨baA p (gTd gh.1) (pO p) k, fun M Q hc hQ => ?_⟩
    · have hcg : RCg 9 p gh M := hc.2.2.1
      have e : ¬ z_L_isOpen_6 M (nI (k % 4)) (nI (k / 4)) = 0 := by rw [isOpen_C hp hc.2.1, ho]; decide
      have fin := hQ M (fun _ _ _ => rfl) (fun _ _ => rfl) rfl
      refine sg_C_barrow_0_0 M _ _ (fun _ => ?_) (fun c => absurd c e)
      rw [en, hc.2.1.door, sI_one hk, sI_one hd]
      refine wx_cells hp hc.2.1 ?_
      refine sg_C_barrow_0_40 M _ _ _ _ _ ?_
      refine wx_todaysCells hg hcg ?_
      have ew : sI (thr p) &&& (M.1 6 3 ^^^ (-1)) &&& (sI (gTd gh.1) ^^^ (-1)) = sI (firm p (gTd gh.1)) := by
        rw [hc.2.1.2.2.2.1, sI_diff, sI_diff]
        rfl
      have ez : (sI (fun j => decide (j = pO p)) &&& sI (firm p (gTd gh.1)) = 0) ↔ firm p (gTd gh.1) (pO p) = false := by
        rw [sI_and, sI_zero]
        constructor
        · intro h
          have := h (pO p) hd
          simpa using this
        · intro h j _
          by_cases ej : j = pO p
          · rw [ej, h]; simp
          · rw [decide_eq_false ej]; rfl
      unfold baA at fin
      refine sg_C_barrow_0_57 M _ _ _ _ _ _ (fun c => ?_) (fun c => ?_)
      · rw [ew] at c ⊢
        rw [ez] at c
        rw [if_pos (by simpa using c)] at fin
        exact wx_reach hk fin
      · rw [ew, ez] at c
        rw [if_neg (by rw [c]; decide)] at fin
        exact fin
