/-! ===== more small calls ===== -/
/-- cells of the class that the yard's state doesn't rest on: the reader's told plot, the plot's own heights and stock, water, mender, planner -/
def scrC (q : Nat) : Prop := (3 ≤ q ∧ q ≤ 5) ∨ q = 7 ∨ q = 8 ∨ (30 ≤ q ∧ q < 37)
theorem RC.of_eq {s : Sg} {M M' : Mem} (h : RC s M) (hf : ∀ q, q < 37 → ¬ scrC q → M'.1 q = M.1 q) (h2 : M'.2 0 = M.2 0) : RC s M' := by
  obtain ⟨g1, g2, g3, g4, g5, g6⟩ := h
  have e : ∀ q, q < 30 → q ≠ 3 → q ≠ 4 → q ≠ 5 → q ≠ 7 → q ≠ 8 → M'.1 q = M.1 q := fun q a1 a2 a3 a4 a5 a6 => hf q (by omega) (by unfold scrC; omega)
  have eg : ∀ b gh, 9 ≤ b → b + 6 < 30 → RCg b s.2.1 gh M → RCg b s.2.1 gh M' := by
    intro b gh hb1 hb2 h
    unfold RCg at h ⊢
    rw [e b (by omega) (by omega) (by omega) (by omega) (by omega) (by omega), e (b + 1) (by omega) (by omega) (by omega) (by omega) (by omega) (by omega), e (b + 2) (by omega) (by omega) (by omega) (by omega) (by omega) (by omega), e (b + 3) (by omega) (by omega) (by omega) (by omega) (by omega) (by omega), e (b + 4) (by omega) (by omega) (by omega) (by omega) (by omega) (by omega), e (b + 5) (by omega) (by omega) (by omega) (by omega) (by omega) (by omega), e (b + 6) (by omega) (by omega) (by omega) (by omega) (by omega) (by omega)]
    exact h
  have e0 := e 0 (by decide) (by decide) (by decide) (by decide) (by decide) (by decide)
  have e1 := e 1 (by decide) (by decide) (by decide) (by decide) (by decide) (by decide)
  have e2 := e 2 (by decide) (by decide) (by decide) (by decide) (by decide) (by decide)
  have e6 := e 6 (by decide) (by decide) (by decide) (by decide) (by decide) (by decide)
  refine ⟨?_, ?_, eg 9 _ (by decide) (by decide) g3, ?_, ?_, by rw [h2]; exact g6⟩
  · unfold RCt at g1 ⊢; rw [e1, e2]; exact g1
  · unfold RCp at g2 ⊢; rw [e6]; exact g2
  · exact ⟨by rw [e0]; exact g4.1, fun gh q => eg 16 gh (by decide) (by decide) (g4.2.1 gh q), fun gh q => eg 23 gh (by decide) (by decide) (g4.2.2 gh q)⟩
  · unfold RCs at g5 ⊢; rw [e0]; exact g5
theorem RM.of_eq {s : Sg} {M M' : Mem} (h : RM s M) (h38 : M'.1 38 = M.1 38) (h46 : M'.1 46 = M.1 46) (h47 : M'.1 47 = M.1 47) (h55 : M'.1 55 = M.1 55) (ha : M'.1 37 2 = M.1 37 2) (hb : M'.1 37 29 = M.1 37 29) (h39 : M'.1 39 0 = M.1 39 0) (h40 : M'.1 40 0 = M.1 40 0) (h41 : M'.1 41 0 = M.1 41 0) (h42 : M'.1 42 0 = M.1 42 0) (h43 : M'.1 43 0 = M.1 43 0) (h2 : M'.2 37 = M.2 37) : RM s M' := by
  obtain ⟨g1, g2, g3, g4, g5, g6⟩ := h
  refine ⟨?_, ?_, by rw [h46]; exact g3, ?_, ?_, by rw [h2]; exact g6⟩
  · unfold RMt at g1 ⊢; rw [h38, ha]; exact g1
  · unfold RMp at g2 ⊢; rw [h39, h40, h41, h42, h43]; exact g2
  · unfold RMi at g4 ⊢; rw [h46, h47]; exact g4
  · unfold RMs at g5 ⊢; rw [hb, h55]; exact g5
/-- calls that answer and leave the yard as it is -/
theorem agr_ans {a b : Mi} {da db : Nat} {as : List Value}
    (h : ∀ (i : Nat) (s : Sg) (M : Mem), WfS (20 + i) s → RC s M → RM s M → ∃ (r : Int32),
      (∀ Q : Option Value → Mem → Prop, (∀ M1, (∀ q, q < 37 → ¬ scrC q → M1.1 q = M.1 q) → (∀ q, 37 ≤ q → M1.1 q = M.1 q) → M1.2 = M.2 → Q (some (.int r)) M1) → WX a da Q 0 (entL a.2.2.1 (.ref 0 :: as)) [] M) ∧
      (∀ (M1 : Mem) (Q : Option Value → Mem → Prop), RM s M1 → (∀ M2, RM s M2 → FrM M1 M2 → Q (some (.int r)) M2) → WX b db Q 0 (entL b.2.2.1 (.ref 37 :: as)) [] M1)) : Agr Inv a b da db as := by
  refine agr_of (fun i s M hw hc hm => ?_)
  obtain ⟨r, h1, h2⟩ := h i s M hw hc hm
  exact ⟨r, s, hw.up (by omega), fun Q hQ => h1 Q (fun M1 e1 e2 e3 => hQ M1 (hc.of_eq e1 (by rw [e3])) ⟨e2, by rw [e3]⟩), h2⟩
theorem a_stock (x : Int32) : Agr Inv mi_C_stock mi_M_stock 2 2 [.int x] := by
  refine agr_ans (fun i s M hw hc hm => ?_)
  obtain ⟨t, p, gh, im, sn, tr⟩ := s
  by_cases hx : 0 ≤ x ∧ x ≤ 3
  · obtain ⟨j, hj, rfl⟩ := nI_of2 (n := 3) (by decide) (Int32.not_lt.mpr hx.1) hx.2
    have hc3 := hc.2.2.1.2.2.1 j (by omega)
    refine ⟨nI (gSt gh.1 j), fun Q hQ => ?_, fun M1 Q hm1 hQ => ?_⟩
    · have e : z_C_stock_0 M (nI j) = nI (gSt gh.1 j) := by
        have e1 : z_C_isSize (nI j) = 1 := by
          have : j = 0 ∨ j = 1 ∨ j = 2 ∨ j = 3 := by omega
          rcases this with rfl | rfl | rfl | rfl <;> decide
        unfold z_C_stock_0
        rw [e1, if_neg (by decide), nI_clamp (by omega)]
        exact hc3
      refine wx_C_stock_0 M (nI j) (fun _ => vp_in_nI (by omega) (by decide)) ?_
      rw [e]
      exact hQ M (fun _ _ _ => rfl) (fun _ _ => rfl) rfl
    · have e : z_M_stock_37 M1 (nI j) = nI (gSt gh.1 j) := by
        unfold z_M_stock_37
        rw [in_bI, decide_eq_true hx.1, decide_eq_true hx.2, if_neg (by decide), show (32 : Int32) = nI 32 from rfl, nI_add, nI_clamp (by omega)]
        have := hm1.2.2.1.1.2.2.1 j (by omega)
        simpa using this
      refine wx_M_stock_37 M1 (nI j) (fun _ => by rw [show (32 : Int32) = nI 32 from rfl, nI_add]; exact vp_in_nI (by omega) (by decide)) ?_
      rw [e]
      exact hQ M1 hm1 (FrM.refl M1)
  · have h1 : z_C_isSize x = 0 := by
      unfold z_C_isSize
      by_cases h1 : x < 0
      · rw [if_pos h1]
      · rw [if_neg h1, if_pos]
        have h2 : ¬ x ≤ 3 := fun q => hx ⟨Int32.not_lt.mp h1, q⟩
        have h3 := Int32.not_le.mp h2
        rw [Int32.lt_iff_toInt_lt, show (3 : Int32).toInt = 3 from rfl] at h3
        rw [Int32.le_iff_toInt_le, show (4 : Int32).toInt = 4 from rfl]
        omega
    have h2 : ∀ M1 : Mem, z_M_in x 0 3 = 0 := by
      intro _
      rw [in_bI, bI_0]
      by_cases h1 : 0 ≤ x
      · have : ¬ x ≤ 3 := fun q => hx ⟨h1, q⟩
        simp [this]
      · simp [h1]
    refine ⟨-1, fun Q hQ => ?_, fun M1 Q hm1 hQ => ?_⟩
    · refine wx_C_stock_0 M x (fun c => absurd h1 c) ?_
      have e : z_C_stock_0 M x = -1 := by unfold z_C_stock_0; rw [if_pos h1]
      rw [e]
      exact hQ M (fun _ _ _ => rfl) (fun _ _ => rfl) rfl
    · refine wx_M_stock_37 M1 x (fun c => absurd (h2 M1) c) ?_
      have e : z_M_stock_37 M1 x = -1 := by unfold z_M_stock_37; rw [if_pos (h2 M1)]
      rw [e]
      exact hQ M1 hm1 (FrM.refl M1)
theorem nar_b : ∀ c, c < 256 → vp_nar .byte (nI c).toInt8.toInt32 &&& 255 = nI c := by decide +kernel
theorem getElem?_snoc {α : Type} {t : List α} {c d : α} {j : Nat} (h : (t ++ [c])[j]? = some d) : (j < t.length ∧ t[j]? = some d) ∨ (j = t.length ∧ d = c) := by
  by_cases hj : j < t.length
  · rw [List.getElem?_append_left hj] at h
    exact Or.inl ⟨hj, h⟩
  · rw [List.getElem?_append_right (by omega)] at h
    have h1 : j - t.length < 1 := (List.getElem?_eq_some_iff.mp h).1
    have : j = t.length := by omega
    subst this
    rw [Nat.sub_self] at h
    cases h
    exact Or.inr ⟨rfl, rfl⟩
theorem a_type (x : Int32) : Agr Inv mi_C_type mi_M_type 2 2 [.int x] := by
  refine agr_of (fun i s M hw hc hm => ?_)
  obtain ⟨t, p, gh, im, sn, tr⟩ := s
  have hup := hw.up (show 20 + i ≤ 20 + (i + 1) by omega)
  have hlen : t.length ≤ 150 := hw.1.1
  by_cases hx : 0 ≤ x ∧ x ≤ 255
  · obtain ⟨c, hcc, rfl⟩ := nI_of2 (n := 255) (by decide) (Int32.not_lt.mpr hx.1) hx.2
    have hin : ¬ z_M_in (nI c) 0 255 = 0 := by rw [in_bI, decide_eq_true hx.1, decide_eq_true hx.2]; decide
    by_cases hf : t.length = 150
    · refine ⟨-3, (t, p, gh, im, sn, tr), hup, fun Q hQ => ?_, fun M1 Q hm1 hQ => ?_⟩
      · refine sg_C_type_0_0 M (nI c) (fun q => absurd q (Int32.not_lt.mpr hx.1)) (fun _ _ => ?_) (fun _ q => absurd hx.2 q)
        have hl : ¬ M.1 1 1 < 150 := by rw [hc.1.1, hf]; decide
        refine sg_R_take_1_0 M (nI c) (fun q => absurd q hl) (fun q => absurd q hl) (fun _ => ?_)
        exact sg_C_type_0_21 M (nI c) 0 (fun _ => hQ M hc (FrC.refl M)) (fun q => absurd rfl q)
      · have hl : M1.1 37 2 = 150 := by rw [hm1.1.1, hf]; rfl
        exact sg_M_type_37_0 M1 (nI c) (fun _ q => absurd hl q) (fun _ q => absurd hl q) (fun _ _ => hQ M1 hm1 (FrM.refl M1)) (fun q => absurd q hin)
    · have hlt : t.length < 150 := by omega
      refine ⟨nI (t.length + 1), (t ++ [c], p, gh, im, sn, tr), ⟨⟨by rw [List.length_append]; simp; omega, fun d hd => ?_⟩, hup.2⟩, fun Q hQ => ?_, fun M1 Q hm1 hQ => ?_⟩
      · rcases List.mem_append.mp hd with h | h
        · exact hw.1.2 d h
        · rw [List.mem_singleton.mp h]; omega
      · refine sg_C_type_0_0 M (nI c) (fun q => absurd q (Int32.not_lt.mpr hx.1)) (fun _ _ => ?_) (fun _ q => absurd hx.2 q)
        have hl : M.1 1 1 < 150 := by rw [hc.1.1]; exact nI_lt (b := 150) hlt (by decide)
        refine sg_R_take_1_0 M (nI c) (fun _ => by rw [hc.1.1]; exact vp_in_nI hlt (by decide)) (fun _ => ?_) (fun q => absurd hl q)
        refine sg_C_type_0_21 _ (nI c) 1 (fun q => absurd q (by decide)) (fun _ => ?_)
        have e1 : (M.1 1 1 + 1) = nI (t.length + 1) := by rw [hc.1.1, nI_1]
        have e2 : (M.1 1 1).toNatClampNeg = t.length := by rw [hc.1.1]; exact nI_clamp (n := t.length) (by omega)
        rw [e1, e2]
        have e3 : (wr (wr M 2 t.length (nI c)) 1 1 (nI (t.length + 1))).1 1 1 = nI (t.length + 1) := by simp [wr]
        rw [e3]
        refine hQ _ ?_ (((FrC.refl M).wr (by decide)).wr (by decide))
        obtain ⟨h1, h2, h3, h4, h5, h6⟩ := hc
        refine ⟨⟨by rw [e3, List.length_append]; rfl, fun j d hd => ?_⟩, ?_, ?_, ?_, ?_, h6⟩
        · rcases getElem?_snoc hd with ⟨hj, h⟩ | ⟨rfl, rfl⟩
          · have := h1.2 j d h
            simp [wr, show j ≠ t.length by omega, this]
          · simp [wr]
        · simpa [RCp, wr] using h2
        · simpa [RCg, wr] using h3
        · simpa [RCi, RCg, wr] using h4
        · simpa [RCs, wr] using h5
      · have hl : ¬ M1.1 37 2 = 150 := by
          rw [hm1.1.1]
          intro q
          exact hf ((nI_eq (a := t.length) (b := 150) (by omega) (by decide)).mp q)
        refine sg_M_type_37_0 M1 (nI c) (fun _ _ => by rw [hm1.1.1]; exact vp_in_nI hlt (by decide)) (fun _ _ => ?_) (fun _ q => absurd q hl) (fun q => absurd q hin)
        have e1 : (M1.1 37 2 + 1) = nI (t.length + 1) := by rw [hm1.1.1, nI_1]
        have e2 : (M1.1 37 2).toNatClampNeg = t.length := by rw [hm1.1.1]; exact nI_clamp (n := t.length) (by omega)
        rw [e1, e2]
        refine hQ _ ?_ (((FrM.refl M1).wr (by decide) (by decide)).wr (by decide) (by decide))
        obtain ⟨h1, h2, h3, h4, h5, h6⟩ := hm1
        refine ⟨⟨by rw [List.length_append]; simp [wr], fun j d hd => ?_⟩, ?_, ?_, ?_, ?_, h6⟩
        · rcases getElem?_snoc hd with ⟨hj, h⟩ | ⟨rfl, rfl⟩
          · have := h1.2 j d h
            simp [wr, show j ≠ t.length by omega, this]
          · have := nar_b d (by omega)
            simpa [wr] using this
        · simpa [RMp, wr] using h2
        · simpa [RMg, wr] using h3
        · simpa [RMi, RMg, wr] using h4
        · simpa [RMs, wr] using h5
  · have hin : z_M_in x 0 255 = 0 := by
      rw [in_bI, bI_0]
      by_cases h1 : 0 ≤ x
      · have : ¬ x ≤ 255 := fun q => hx ⟨h1, q⟩
        simp [this]
      · simp [h1]
    refine ⟨-1, (t, p, gh, im, sn, tr), hup, fun Q hQ => ?_, fun M1 Q hm1 hQ => ?_⟩
    · exact sg_C_type_0_0 M x (fun _ => hQ M hc (FrC.refl M)) (fun q1 q2 => absurd ⟨Int32.not_lt.mp q1, q2⟩ hx) (fun _ _ => hQ M hc (FrC.refl M))
    · exact sg_M_type_37_0 M1 x (fun q => absurd hin q) (fun q => absurd hin q) (fun q => absurd hin q) (fun _ => hQ M1 hm1 (FrM.refl M1))
theorem a_saw (x y : Int32) : Agr Inv mi_C_saw mi_M_saw 3 4 [.int x, .int y] := by
  refine agr_of (fun i s M hw hc hm => ?_)
  obtain ⟨t, p, gh, im, sn, tr⟩ := s
  have hup := hw.up (show 20 + i ≤ 20 + (i + 1) by omega)
  have hp : WfP p := hw.2.1
  have hlen : sn.length ≤ 6 := hw.2.2.2.2.2.1
  cases ho : okd p x y with
  | false =>
    refine ⟨-1, (t, p, gh, im, sn, tr), hup, fun Q hQ => ?_, fun M1 Q hm1 hQ => ?_⟩
    · have e : z_L_isOpen_6 M x y = 0 := by rw [isOpen_C hp hc.2.1, ho]; rfl
      exact sg_C_saw_0_0 M x y (fun q => absurd e q) (fun q => absurd e q) (fun _ => hQ M hc (FrC.refl M))
    · have e : z_M_isDryAt_37 M1 x y = 0 := by rw [isDryAt_M hp hm1.2.1, ho]; rfl
      exact sg_M_saw_37_0 M1 x y (fun q => absurd e q) (fun q => absurd e q) (fun q => absurd e q) (fun _ => hQ M1 hm1 (FrM.refl M1))
  | true =>
    have e : ¬ z_L_isOpen_6 M x y = 0 := by rw [isOpen_C hp hc.2.1, ho]; decide
    have e' : ∀ M1, RM (t, p, gh, im, sn, tr) M1 → ¬ z_M_isDryAt_37 M1 x y = 0 := fun M1 h => by rw [isDryAt_M hp h.2.1, ho]; decide
    obtain ⟨k, hk, rfl, rfl, ht, hl⟩ := okd_cell hp ho
    by_cases hf : sn.length = 6
    · refine ⟨-3, (t, p, gh, im, sn, tr), hup, fun Q hQ => ?_, fun M1 Q hm1 hQ => ?_⟩
      · have h6 : ¬ M.1 0 10 < 6 := by rw [hc.2.2.2.2.1.2, hf]; decide
        exact sg_C_saw_0_0 M _ _ (fun _ q => absurd q h6) (fun _ _ => hQ M hc (FrC.refl M)) (fun q => absurd q e)
      · have h6 : M1.1 37 29 = 6 := by rw [hm1.2.2.2.2.1.1, hf]; rfl
        exact sg_M_saw_37_0 M1 _ _ (fun _ q => absurd h6 q) (fun _ q => absurd h6 q) (fun _ _ => hQ M1 hm1 (FrM.refl M1)) (fun q => absurd q (e' M1 hm1))
    · have hlt : sn.length < 6 := by omega
      refine ⟨nI (sn.length + 1), (t, p, gh, im, sn ++ [k], tr), ?_, fun Q hQ => ?_, fun M1 Q hm1 hQ => ?_⟩
      · refine ⟨hup.1, hup.2.1, hup.2.2.1, hup.2.2.2.1, hup.2.2.2.2.1, by rw [List.length_append]; simp; omega, fun d hd => ?_⟩
        rcases List.mem_append.mp hd with h | h
        · exact hup.2.2.2.2.2.2 d h
        · rw [List.mem_singleton.mp h]; exact ⟨hk, ht, hl⟩
      · have h6 : M.1 0 10 < 6 := by rw [hc.2.2.2.2.1.2]; exact nI_lt (b := 6) hlt (by decide)
        refine sg_C_saw_0_0 M _ _ (fun _ _ => ?_) (fun _ q => absurd h6 q) (fun q => absurd q e)
        obtain ⟨h1, h2, h3, h4, h5, h6'⟩ := hc
        rw [numOf k hk, sI_one hk, h5.1, sI_or, h5.2, nI_1]
        refine hQ _ ⟨?_, ?_, ?_, ?_, ⟨?_, ?_⟩, h6'⟩ (((FrC.refl M).wr (by decide)).wr (by decide))
        · simpa [RCt, wr] using h1
        · simpa [RCp, wr] using h2
        · simpa [RCg, wr] using h3
        · simpa [RCi, RCg, wr] using h4
        · simp only [wr]
          simp
        · simp [wr]
      · have h6 : ¬ M1.1 37 29 = 6 := by
          rw [hm1.2.2.2.2.1.1]
          intro q
          exact hf ((nI_eq (a := sn.length) (b := 6) (by omega) (by decide)).mp q)
        refine sg_M_saw_37_0 M1 _ _ (fun _ _ => by rw [hm1.2.2.2.2.1.1]; exact vp_in_nI hlt (by decide)) (fun _ _ => ?_) (fun _ q => absurd q h6) (fun q => absurd q (e' M1 hm1))
        obtain ⟨h1, h2, h3, h4, h5, h6'⟩ := hm1
        rw [numOf' hk, h5.1, nI_1, nI_clamp (show sn.length < 2 ^ 31 by omega)]
        refine hQ _ ⟨?_, ?_, ?_, ?_, ⟨?_, fun j d hd => ?_⟩, h6'⟩ (((FrM.refl M1).wr (by decide) (by decide)).wr (by decide) (by decide))
        · simpa [RMt, wr] using h1
        · simpa [RMp, wr] using h2
        · simpa [RMg, wr] using h3
        · simpa [RMi, RMg, wr] using h4
        · simp [wr]
        · rcases getElem?_snoc hd with ⟨hj, h⟩ | ⟨rfl, rfl⟩
          · have := h5.2 j d h
            simp [wr, show j ≠ sn.length by omega, this]
          · simp [wr]
