theorem k_undo {B : Nat} {s : Sg} (hi : B ≤ 2580) (hw : WfS B s) : ∃ (r : Int32) (s' : Sg), WfS (B + 1) s' ∧ ((s.2.2.1.2 = [] ∧ s' = s ∧ r = -2) ∨ (∃ e s1 hs, s.2.2.1.2 = (e, s1) :: hs ∧ s' = (s.1, s.2.1, (s1, hs), s.2.2.2) ∧ r = nI hs.length)) ∧ K0 mi_C_undo 5 [] s (.int r) s' := by
  obtain ⟨t, p, gh, im, sn, tr⟩ := s
  have hup := hw.up (show B ≤ B + 1 by omega)
  have hg : WfG (B) p gh.1 := hw.2.2.1.1
  obtain ⟨g, hs⟩ := gh
  cases hs with
  | nil =>
    refine ⟨-2, (t, p, (g, []), im, sn, tr), hup, Or.inl ⟨rfl, rfl, rfl⟩, fun M Q hc hQ => ?_⟩
    · have hcg : RCg 9 p ((g, []) : Gh) M := hc.2.2.1
      have h0 : M.1 9 8 = 0 := hcg.2.2.2.2.2.1
      have n0 : ¬ 0 < M.1 9 8 := by rw [h0]; decide
      refine sg_C_undo_0_0 M ?_
      refine sg_G_goBack_9_0 M (fun c => absurd c n0) (fun c => absurd c n0) (fun c => absurd c n0) (fun c => absurd c n0) (fun c => absurd c n0) (fun c => absurd c n0) (fun c => absurd c n0) (fun _ => ?_)
      exact sg_C_undo_0_7 M _ (fun _ => hQ M hc (FrC.refl M)) (fun c => absurd rfl c)
  | cons es hs =>
    obtain ⟨e, s⟩ := es
    obtain ⟨ho, hu, hgs, hch⟩ := hw.2.2.1.2.1
    have hl : hs.length + 1 ≤ 10 := hw.2.2.1.2.2
    have hwh : WfH (B + 1) p (s, hs) := WfH.up (B := B) (by omega) ⟨hgs, hch, by show hs.length ≤ 10; omega⟩
    refine ⟨nI hs.length, (t, p, (s, hs), im, sn, tr), WfS.act (by omega) hw hwh, Or.inr ⟨_, _, _, rfl, rfl, rfl⟩, fun M Q hc hQ => ?_⟩
    · have hcg : RCg 9 p ((g, (e, s) :: hs) : Gh) M := hc.2.2.1
      obtain ⟨hx, h8, hh⟩ := RCg_iff.mp hcg
      have h8 : M.1 9 8 = nI (hs.length + 1) := h8
      have hp8 : 0 < M.1 9 8 := by
        rw [h8, Int32.lt_iff_toInt_lt, nI_toInt (by omega), show (0 : Int32).toInt = 0 from rfl]
        omega
      have e8 : M.1 9 8 - 1 = nI hs.length := by rw [h8]; exact nI_pred _
      have ec : (M.1 9 8 - 1).toNatClampNeg = hs.length := by rw [e8]; exact nI_clamp (by omega)
      obtain ⟨m13, m14, m15⟩ := hh 0 (e, s) rfl
      have m13 : M.1 13 (M.1 9 8 - 1).toNatClampNeg = nI e.1 := by rw [ec]; exact m13
      have m14 : M.1 14 (M.1 9 8 - 1).toNatClampNeg = nI e.2.1 := by rw [ec]; exact m14
      have m15 : M.1 15 (M.1 9 8 - 1).toNatClampNeg = nI e.2.2 := by rw [ec]; exact m15
      have fin : ∀ M', RCx 9 p s M' → (∀ q, q ≠ 9 → q ≠ 10 → q ≠ 11 → q ≠ 12 → M'.1 q = M.1 q) → M'.1 9 8 = nI hs.length → M'.2 = M.2 → WX mi_C_undo 5 Q 7 [some (.ref 0)] [.int 1] M' := by
        intro M' r1 r2 r3 r4
        refine sg_C_undo_0_7 M' _ (fun c => absurd c (by decide)) (fun _ => ?_)
        rw [r3]
        have ra := RC.act (gh' := (s, hs)) (M' := M') hc (fun q hq => r2 q (by omega) (by omega) (by omega) (by omega)) r4 (RCg_iff.mpr ⟨r1, r3, fun j e' he => ?_⟩)
        · exact hQ _ ra.1 ra.2
        · have hj : j < hs.length := (List.getElem?_eq_some_iff.mp he).1
          have := hh (j + 1) e' (by rw [List.getElem?_cons_succ]; exact he)
          rw [show ((g, (e, s) :: hs) : Gh).2.length - 1 - (j + 1) = hs.length - 1 - j by show hs.length + 1 - 1 - (j + 1) = _; omega] at this
          rw [r2 13 (by decide) (by decide) (by decide) (by decide), r2 14 (by decide) (by decide) (by decide) (by decide), r2 15 (by decide) (by decide) (by decide) (by decide)]
          exact this
      have hxp : RCx 9 p g (wr M 9 8 (nI hs.length)) := by
        unfold RCx at hx ⊢
        simpa [wr] using hx
      refine sg_C_undo_0_0 M ?_
      have hbb : vp_in (M.1 9 8 - 1) 10 := by rw [e8]; exact vp_in_nI (by omega) (by decide)
      refine sg_G_goBack_9_0 M (fun _ => hbb) (fun _ c => ?_) (fun _ c c2 => ?_) (fun _ c c2 => ?_) (fun _ c => ?_) (fun _ c => ?_) (fun _ c0 c1 c2 => ?_) (fun c => absurd hp8 c)
      · rw [m13] at c
        have k0 : e.1 = 0 := by rcases eOk_kind ho with q | q | q | q <;> rw [q] at c <;> first | exact q | exact absurd c (by decide)
        obtain ⟨n, u, v⟩ := e
        have k0 : n = 0 := k0
        subst k0
        obtain ⟨hu16, -, z, hz⟩ := ho
        rw [m14, e8]
        refine wx_take hg hz hxp (fun M1 r1 r2 r3 r4 => ?_)
        refine sg_G_goBack_9_81 M1 _ _ ?_
        have hs' : s = rmv (16 * z + u) g := by rw [hu]; show rmv (16 * ((szAt g u).getD 0) + u) g = _; rw [show szAt g u = some z from hz]; rfl
        rw [← hs'] at r1
        exact fin M1 r1 (fun q a b c d => by rw [r2 q a c d, wr_ne _ a]) (by rw [r3 8 (by decide)]; simp [wr]) r4
      · rw [m13] at c
        have k0 : e.1 = 1 := by rcases eOk_kind ho with q | q | q | q <;> rw [q] at c <;> first | exact q | exact absurd c (by decide)
        obtain ⟨n, u, v⟩ := e
        have k0 : n = 1 := k0
        subst k0
        obtain ⟨hu16, hv8, hf, hst, hfree⟩ := ho
        rw [m15] at c2
        have hv4 : v < 4 := by
          have hv8 : v < 8 := hv8
          have : ∀ v, v < 8 → nI v < 4 → v < 4 := by decide +kernel
          exact this v hv8 c2
        rw [m14, m15, e8, show rem (nI v) 4 = nI (v % 4) by
          have : ∀ v, v < 8 → rem (nI v) 4 = nI (v % 4) := by decide +kernel
          exact this v hv8, show (0 : Int32) = bI false from rfl]
        refine wx_put (t := false) (Nat.mod_lt _ (by decide)) hu16 hg ⟨hf, hfree⟩ hst hxp (fun M1 r1 r2 r3 r4 => ?_)
        refine sg_G_goBack_9_102 M1 _ _ ?_
        have hs' : s = putc (16 * (v % 4) + u) false g := by rw [hu]; show putc (16 * (v % 4) + u) (decide (4 ≤ v)) g = _; rw [decide_eq_false (by omega)]
        rw [← hs'] at r1
        exact fin M1 r1 (fun q a b c d => by rw [r2 q a c d, wr_ne _ a]) (by rw [r3 8 (by decide)]; simp [wr]) r4
      · rw [m13] at c
        have k0 : e.1 = 1 := by rcases eOk_kind ho with q | q | q | q <;> rw [q] at c <;> first | exact q | exact absurd c (by decide)
        obtain ⟨n, u, v⟩ := e
        have k0 : n = 1 := k0
        subst k0
        obtain ⟨hu16, hv8, hf, hst, hfree⟩ := ho
        rw [m15] at c2
        have hv4 : 4 ≤ v := by
          have hv8 : v < 8 := hv8
          have : ∀ v, v < 8 → ¬ nI v < 4 → 4 ≤ v := by decide +kernel
          exact this v hv8 c2
        rw [m14, m15, e8, show rem (nI v) 4 = nI (v % 4) by
          have : ∀ v, v < 8 → rem (nI v) 4 = nI (v % 4) := by decide +kernel
          exact this v hv8, show (1 : Int32) = bI true from rfl]
        refine wx_put (t := true) (Nat.mod_lt _ (by decide)) hu16 hg ⟨hf, hfree⟩ hst hxp (fun M1 r1 r2 r3 r4 => ?_)
        refine sg_G_goBack_9_102 M1 _ _ ?_
        have hs' : s = putc (16 * (v % 4) + u) true g := by rw [hu]; show putc (16 * (v % 4) + u) (decide (4 ≤ v)) g = _; rw [decide_eq_true hv4]
        rw [← hs'] at r1
        exact fin M1 r1 (fun q a b c d => by rw [r2 q a c d, wr_ne _ a]) (by rw [r3 8 (by decide)]; simp [wr]) r4
      · rw [m13] at c
        have k0 : e.1 = 2 := by rcases eOk_kind ho with q | q | q | q <;> rw [q] at c <;> first | exact q | exact absurd c (by decide)
        obtain ⟨n, u, v⟩ := e
        have k0 : n = 2 := k0
        subst k0
        rw [m14]
        exact vp_in_nI ho.1 (by decide)
      · rw [m13] at c
        have k0 : e.1 = 2 := by rcases eOk_kind ho with q | q | q | q <;> rw [q] at c <;> first | exact q | exact absurd c (by decide)
        obtain ⟨n, u, v⟩ := e
        have k0 : n = 2 := k0
        subst k0
        have hu16 : u < 16 := ho.1
        rw [m14, m15, e8, nI_clamp (by show u < _; omega)]
        refine fin _ ?_ (fun q a b c d => by rw [wr_ne _ b, wr_ne _ a]) (by simp [wr]) rfl
        obtain ⟨k1, k2, k3, k4, k5⟩ := hxp
        rw [hu]
        refine ⟨fun j hj htj => ?_, fun j hj => by rw [wr_ne _ (by decide)]; exact k2 j hj, fun j hj => by rw [wr_ne _ (by decide)]; exact k3 j hj, by rw [wr_ne _ (by decide)]; exact k4, by rw [wr_ne _ (by decide)]; exact k5⟩
        rw [upd_row]
        show _ = nI (if j = u then v else gHt g j)
        by_cases q : j = u
        · rw [if_pos q, if_pos q]
        · rw [if_neg q, if_neg q]; exact k1 j hj htj
      · rw [m13] at c0 c1 c2
        have k0 : e.1 = 3 := by
          rcases eOk_kind ho with q | q | q | q
          · rw [q] at c0; exact absurd rfl c0
          · rw [q] at c1; exact absurd rfl c1
          · rw [q] at c2; exact absurd rfl c2
          · exact q
        obtain ⟨n, u, v⟩ := e
        have k0 : n = 3 := k0
        subst k0
        obtain ⟨-, hv, hd, htd, htb⟩ := ho
        have e4 : M.1 9 4 - 1 = nI (gDy g - 1) := by rw [hx.2.2.2.2]; exact nI_posS hd
        rw [m15, e8, e4]
        refine fin _ ?_ (fun q a b c d => by rw [wr_ne _ a, wr_ne _ a, wr_ne _ a]) (by simp [wr]) rfl
        obtain ⟨k1, k2, k3, k4, k5⟩ := hx
        have sz : ∀ j, szAt s j = szAt g j := fun j => by rw [hu]; rfl
        refine ⟨fun j hj htj => ?_, fun j hj => ?_, fun j hj => ?_, ?_, ?_⟩
        · rw [wr_ne _ (by decide), wr_ne _ (by decide), wr_ne _ (by decide), hu]; exact k1 j hj htj
        · rw [wr_ne _ (by decide), wr_ne _ (by decide), wr_ne _ (by decide), sz]; exact k2 j hj
        · rw [wr_ne _ (by decide), wr_ne _ (by decide), wr_ne _ (by decide), hu]; exact k3 j hj
        · rw [upd_row, if_neg (by decide), upd_row, if_pos rfl]
          have : nI v = sI (fun u => v.testBit u) := by unfold sI; rw [sN_of hv]
          show nI v = _
          rw [this]
          refine sI_ext fun j hj => ?_
          rw [sz]
          have es : gTd s j = (match gSl g j with | some c => v.testBit (c % 16) | none => false) := by rw [hu]; rfl
          rw [es]
          cases hsj : szAt g j with
          | some z =>
            have := (szAt_some hg hsj).2.2.1
            rw [this]
            dsimp only
            rw [show (16 * z + j) % 16 = j by omega]
            simp
          | none =>
            cases hvj : v.testBit j with
            | false => rfl
            | true =>
              obtain ⟨z, hz⟩ := htb j hj hvj
              rw [hsj] at hz
              cases hz
        · rw [upd_row, if_pos rfl, hu]; rfl
