theorem RCp.door {p : Pl} {M : Mem} (h : RCp p M) : M.1 6 2 = nI (pO p) := h.2.2.1
theorem a_barrow (v w : Int32) : Agr Inv mi_C_barrow mi_M_barrow 5 6 [.int v, .int w] := by
  refine agr_ans (fun i s M hw hc hm => ?_)
  obtain ⟨t, p, gh, im, sn, tr⟩ := s
  have hp : WfP p := hw.2.1
  have hg : WfG (20 + i) p gh.1 := hw.2.2.1.1
  have hcg : RCg 9 p gh M := hc.2.2.1
  have hd : pO p < 16 := hp.2.2.2.2.1.1
  cases ho : okd p v w with
  | false =>
    refine ⟨-1, fun Q hQ => ?_, fun M1 Q hm1 hQ => ?_⟩
    · exact sg_C_barrow_0_0 M _ _ (fun c => absurd (by rw [isOpen_C hp hc.2.1, ho]; rfl) c) (fun _ => hQ M (fun _ _ _ => rfl) (fun _ _ => rfl) rfl)
    · exact sg_M_barrow_37_0 M1 _ _ (fun c => absurd (by rw [isDryAt_M hp hm1.2.1, ho]; rfl) c) (fun _ => hQ M1 hm1 (FrM.refl M1))
  | true =>
    have e : ¬ z_L_isOpen_6 M v w = 0 := by rw [isOpen_C hp hc.2.1, ho]; decide
    have e' : ∀ M1, RM (t, p, gh, im, sn, tr) M1 → ¬ z_M_isDryAt_37 M1 v w = 0 := fun M1 h => by rw [isDryAt_M hp h.2.1, ho]; decide
    obtain ⟨k, hk, rfl, rfl, ht, hl⟩ := okd_cell hp ho
    have en : z_C_numberOf (nI (k % 4)) (nI (k / 4)) = nI k := numOf k hk
    have en' : (4 * nI (k / 4)) + nI (k % 4) = nI k := numOf' hk
    refine ⟨baA p (gTd gh.1) (pO p) k, fun Q hQ => ?_, fun M1 Q hm1 hQ => ?_⟩
    · have fin := hQ M (fun _ _ _ => rfl) (fun _ _ => rfl) rfl
      refine sg_C_barrow_0_0 M _ _ (fun _ => ?_) (fun c => absurd c e)
      rw [en, hc.2.1.door, sI_one hk, sI_one hd]
      refine wx_cells hp hc.2.1 ?_
      refine sg_C_barrow_0_40 M _ _ _ _ _ ?_
      refine wx_todaysCells hg hcg ?_
      have ew : sI (thr p) &&& (M.1 6 3 ^^^ (-1)) &&& (sI (gTd gh.1) ^^^ (-1)) = sI (firm p (gTd gh.1)) := by
        rw [hc.2.1.2.2.2.1, sI_diff, sI_diff]
        rfl
      have ez : (sI (fun j => decide (j = pO p)) &&& sI (firm p (gTd gh.1)) = 0) ↔ firm p (gTd gh.1) (pO p) = false := by
        rw [sI_and, sI_zero]
        constructor
        · intro h
          have := h (pO p) hd
          simpa using this
        · intro h j _
          by_cases ej : j = pO p
          · rw [ej, h]; simp
          · rw [decide_eq_false ej]; rfl
      unfold baA at fin
      refine sg_C_barrow_0_57 M _ _ _ _ _ _ (fun c => ?_) (fun c => ?_)
      · rw [ew] at c ⊢
        rw [ez] at c
        rw [if_pos (by simpa using c)] at fin
        exact wx_reach hk fin
      · rw [ew, ez] at c
        rw [if_neg (by rw [c]; decide)] at fin
        exact fin
    · refine sg_M_barrow_37_0 M1 _ _ (fun _ => ?_) (fun c => absurd c (e' M1 hm1))
      rw [en']
      have e43 : M1.1 43 0 = nI (pO p) := hm1.2.1.2.2.1
      have e36 : M1.1 46 36 = sI (gTd gh.1) := hm1.td
      have init : ∀ u, u ≤ 16 → ∀ M2 : Mem, (∀ j, j < u → M2.1 54 j = nI (if j = pO p ∧ firm p (gTd gh.1) (pO p) = true then 0 else 1000)) → BM M1 M2 → WX mi_M_barrow 6 Q 20 [some (.ref 37), some (.int (nI (k % 4))), some (.int (nI (k / 4))), some (.int (nI k)), some (.int (nI u)), none, none, none, none] [] M2 := by
        refine downN 16 (fun M2 h1 hb => ?_) (fun u hu ih M2 h1 hb => ?_)
        · refine sg_M_barrow_37_20 M2 _ _ _ _ (fun _ => ?_) (fun c => absurd ge16 c) (fun c => absurd ge16 c) (fun c => absurd ge16 c) (fun c => absurd ge16 c) (fun c => absurd ge16 c) (fun c => absurd ge16 c) (fun c => absurd ge16 c)
          refine wx_barrowM (M0 := M1) (p := p) (td := gTd gh.1) (dr := pO p) (to := k) hp hm1.2.1 e36 rfl hd hk ht (fun M' hb' => ?_) _ (fun j => if j = pO p ∧ firm p (gTd gh.1) (pO p) = true then 0 else 1000) M2 rfl ⟨fun j hj => ?_, fun q => ?_⟩ h1 hb
          · have rm2 : RM (t, p, gh, im, sn, tr) M' := hm1.of_eq (hb'.1 38 (by decide)) (hb'.1 46 (by decide)) (hb'.1 47 (by decide)) (hb'.1 55 (by decide)) (by rw [hb'.1 37 (by decide)]) (by rw [hb'.1 37 (by decide)]) (by rw [hb'.1 39 (by decide)]) (by rw [hb'.1 40 (by decide)]) (by rw [hb'.1 41 (by decide)]) (by rw [hb'.1 42 (by decide)]) (by rw [hb'.1 43 (by decide)]) (by rw [hb'.2])
            exact hQ M' rm2 ⟨fun q hq => hb'.1 q (by omega), by rw [hb'.2]⟩
          · by_cases ej : j = pO p ∧ firm p (gTd gh.1) (pO p) = true
            · show (if _ then 0 else 1000) ≤ 1000 ∧ ((if _ then 0 else 1000) < 1000 → _ ∧ rch p (gTd gh.1) (pO p) k (if _ then 0 else 1000) j = true)
              rw [if_pos ej]
              refine ⟨by decide, fun _ => ⟨ej.2, ?_⟩⟩
              show decide (j = pO p) = true
              rw [ej.1]
              simp
            · show (if _ then 0 else 1000) ≤ 1000 ∧ ((if _ then 0 else 1000) < 1000 → _ ∧ rch p (gTd gh.1) (pO p) k (if _ then 0 else 1000) j = true)
              rw [if_neg ej]
              exact ⟨Nat.le_refl _, fun q => absurd q (Nat.lt_irrefl _)⟩
          · show (if _ then 0 else 1000) = 0
            rw [if_pos ⟨rfl, q⟩]
        · have hmM := hb.p hm1.2.1
          have e43' : M2.1 43 0 = nI (pO p) := by rw [hb.1 43 (by decide)]; exact e43
          have e36' : M2.1 46 36 = sI (gTd gh.1) := by rw [hb.1 46 (by decide)]; exact e36
          have vu : vp_in (nI u) 16 := vp_in_nI hu (by decide)
          have ef := isFirm_M hp hmM e36' hu
          have set1 : ∀ x : Nat, x = (if u = pO p ∧ firm p (gTd gh.1) (pO p) = true then 0 else 1000) → WX mi_M_barrow 6 Q 20 [some (.ref 37), some (.int (nI (k % 4))), some (.int (nI (k / 4))), some (.int (nI k)), some (.int (nI u + 1)), none, none, none, none] [] (wr M2 54 (nI u).toNatClampNeg (nI x)) := by
            intro x hx
            rw [nI_clamp (by omega), nI_1]
            refine ih _ (fun j hj => ?_) (bm_wr hb _ _)
            rw [upd_row]
            by_cases ej : j = u
            · rw [if_pos ej, ej, hx]
            · rw [if_neg ej]; exact h1 j (by omega)
          refine sg_M_barrow_37_20 M2 _ _ _ _ (fun c => absurd c (lt16 hu)) (fun _ _ => vu) (fun _ c => ?_) (fun _ _ => by rw [isCell_M hp hmM]; exact bI_01 _) (fun _ _ _ => vu) (fun _ c c2 => ?_) (fun _ _ _ => vu) (fun _ c c2 => ?_)
          · refine set1 1000 ?_
            rw [if_neg (fun q => c (by rw [e43', q.1]))]
          · rw [e43'] at c
            have eu := (nI_eq (by omega) (by omega)).mp c
            rw [ef, bI_0, eu] at c2
            refine set1 1000 ?_
            rw [if_neg (fun q => by rw [c2] at q; exact absurd q.2 (by decide))]
          · rw [e43'] at c
            have eu := (nI_eq (by omega) (by omega)).mp c
            rw [ef, bI_0, eu] at c2
            refine set1 0 ?_
            rw [if_pos ⟨eu, by simpa using c2⟩]
      exact init 0 (by decide) M1 (fun j hj => absurd hj (Nat.not_lt_zero j)) ⟨fun _ _ => rfl, rfl⟩
