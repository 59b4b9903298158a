/-! ===== what was done is remembered: the class's entries, the model's states ===== -/
def RCh (b : Nat) (hs : Hs) (M : Mem) : Prop := M.1 b 8 = nI hs.length ∧ ∀ j e, hs[j]? = some e → M.1 (b + 4) (hs.length - 1 - j) = nI e.1.1 ∧ M.1 (b + 5) (hs.length - 1 - j) = nI e.1.2.1 ∧ M.1 (b + 6) (hs.length - 1 - j) = nI e.1.2.2
theorem RCg.h {b : Nat} {p : Pl} {gh : Gh} {M : Mem} (h : RCg b p gh M) : RCh b gh.2 M := ⟨h.2.2.2.2.2.1, h.2.2.2.2.2.2⟩
/-- one more, the oldest of eleven is lost -/
def more (e : En) (g : Gd) (hs : Hs) : Hs := ((e, g) :: hs).take 10
theorem more_lt {e : En} {g : Gd} {hs : Hs} (h : hs.length < 10) : more e g hs = (e, g) :: hs := by
  unfold more
  rw [List.take_of_length_le]
  rw [List.length_cons]
  omega
theorem more_eq {e : En} {g : Gd} {hs : Hs} (h : hs.length = 10) : more e g hs = (e, g) :: hs.take 9 := rfl
theorem more_len {e : En} {g : Gd} {hs : Hs} (h : hs.length ≤ 10) : (more e g hs).length = min (hs.length + 1) 10 := by
  unfold more
  rw [List.length_take, List.length_cons]
  omega
theorem upd_row (M : Mem) (p k : Nat) (v : Int32) (j : Nat) : (wr M p k v).1 p j = if j = k then v else M.1 p j := by simp [wr]
theorem wx_remember {hs : Hs} {e : En} {g : Gd} {M : Mem} {Q : Option Value → Mem → Prop} (h : RCh 9 hs M) (hl : hs.length ≤ 10)
    (hQ : ∀ M', RCh 9 (more e g hs) M' → (∀ q, q ≠ 9 → q ≠ 13 → q ≠ 14 → q ≠ 15 → M'.1 q = M.1 q) → (∀ k, k ≠ 8 → M'.1 9 k = M.1 9 k) → M'.2 = M.2 → Q none M') :
    WX mi_G_remember 1 Q 0 [some (.ref 9), some (.int (nI e.1)), some (.int (nI e.2.1)), some (.int (nI e.2.2)), none] [] M := by
  have hn : M.1 9 8 = nI hs.length := h.1
  by_cases hc : hs.length < 10
  · have hlt : M.1 9 8 < 10 := by rw [hn]; exact nI_lt (b := 10) hc (by decide)
    refine sg_G_remember_9_0 M _ _ _ (fun _ => by rw [hn]; exact vp_in_nI hc (by decide)) (fun _ => ?_) (fun c => absurd hlt c)
    rw [hn, nI_clamp (by omega), nI_1]
    refine hQ _ ?_ (fun q a b c d => by simp [wr, a, b, c, d]) (fun k hk => by simp [wr, hk]) rfl
    rw [more_lt hc]
    refine ⟨by simp [wr], fun j e' he => ?_⟩
    cases j with
    | zero =>
      rw [List.getElem?_cons_zero] at he
      cases he
      simp [wr]
    | succ j =>
      rw [List.getElem?_cons_succ] at he
      have hj : j < hs.length := (List.getElem?_eq_some_iff.mp he).1
      have := h.2 j e' he
      rw [List.length_cons, show hs.length + 1 - 1 - (j + 1) = hs.length - 1 - j by omega]
      have ne : hs.length - 1 - j ≠ hs.length := by omega
      simpa [wr, ne] using this
  · have h10 : hs.length = 10 := by omega
    have hlt : ¬ M.1 9 8 < 10 := by rw [hn, h10]; decide
    refine sg_G_remember_9_0 M _ _ _ (fun c => absurd c hlt) (fun c => absurd c hlt) (fun _ => ?_)
    have loop : ∀ i, i ≤ 10 → 1 ≤ i → ∀ M1 : Mem, (∀ r, r = 13 ∨ r = 14 ∨ r = 15 → ∀ j, M1.1 r j = if j + 1 < i then M.1 r (j + 1) else M.1 r j) → (∀ q, q ≠ 13 → q ≠ 14 → q ≠ 15 → M1.1 q = M.1 q) → M1.2 = M.2 →
        WX mi_G_remember 1 Q 12 [some (.ref 9), some (.int (nI e.1)), some (.int (nI e.2.1)), some (.int (nI e.2.2)), some (.int (nI i))] [] M1 := by
      refine downN 10 (fun _ M1 h1 h2 h3 => ?_) (fun i hi ih h0 M1 h1 h2 h3 => ?_)
      · refine sg_G_remember_9_12 M1 _ _ _ _ (fun _ => ?_) (fun c => absurd (by decide) c) (fun c => absurd (by decide) c) (fun c => absurd (by decide) c)
        refine hQ _ ?_ (fun q a b c d => by simp [wr, a, b, c, d, h2 q b c d]) (fun k hk => by simp [wr, hk, h2 9 (by decide) (by decide) (by decide)]) h3
        rw [more_eq h10]
        refine ⟨by simp [wr, h10]; decide, fun j e' he => ?_⟩
        cases j with
        | zero =>
          rw [List.getElem?_cons_zero] at he
          cases he
          simp [wr, h10]
        | succ j =>
          rw [List.getElem?_cons_succ] at he
          have hj : j < 9 := by
            have := (List.getElem?_eq_some_iff.mp he).1
            rw [List.length_take] at this
            omega
          have he' : hs[j]? = some e' := by simpa [List.getElem?_take, hj] using he
          have := h.2 j e' he'
          rw [h10] at this
          rw [List.length_cons, List.length_take, h10, show min 9 10 + 1 - 1 - (j + 1) = 8 - j by omega]
          have ne : 8 - j ≠ 9 := by omega
          have e13 := h1 13 (Or.inl rfl) (8 - j)
          have e14 := h1 14 (Or.inr (Or.inl rfl)) (8 - j)
          have e15 := h1 15 (Or.inr (Or.inr rfl)) (8 - j)
          rw [if_pos (by omega), show 8 - j + 1 = 10 - 1 - j by omega] at e13 e14 e15
          simp [wr, ne, e13, e14, e15]
          simpa using this
      · have e1 : nI i - 1 = nI (i - 1) := by
          have := nI_pred (i - 1)
          rw [show i - 1 + 1 = i by omega] at this
          exact this
        refine sg_G_remember_9_12 M1 _ _ _ _ (fun c => absurd c (Int32.not_le.mpr (nI_lt (b := 10) hi (by decide)))) (fun _ => vp_in_nI hi (by decide)) (fun _ => by rw [e1]; exact vp_in_nI (by omega) (by decide)) (fun _ => ?_)
        rw [e1, nI_clamp (by omega), nI_clamp (by omega), nI_1]
        refine ih (by omega) _ ?_ (fun q a b c => by simp [wr, a, b, c, h2 q a b c]) h3
        intro r hr j
        have g1 := h1 r hr j
        have g2 := h1 r hr i
        rw [if_neg (by omega)] at g2
        rcases hr with rfl | rfl | rfl <;> simp only [wr] <;> simp <;> by_cases hj : j = i - 1
        all_goals first
          | (subst hj; rw [if_pos rfl, if_pos (by omega), g2, show i - 1 + 1 = i by omega])
          | (rw [if_neg hj, g1]; by_cases hk : j + 1 < i
             · rw [if_pos hk, if_pos (by omega)]
             · rw [if_neg hk, if_neg (by omega)])
    exact loop 1 (by decide) (by decide) M (fun r _ j => by rw [if_neg (by omega)]) (fun _ _ _ _ => rfl) rfl
theorem blk_congr {o o' : Nat} {p : Pl} {g : Gd} {f f' : Nat → Int32} (h : blk o p g f) (he : ∀ k, k < 38 → f' (o' + k) = f (o + k)) : blk o' p g f' := by
  obtain ⟨h1, h2, h3, h4, h5⟩ := h
  refine ⟨fun k hk ht => by rw [he k (by omega)]; exact h1 k hk ht, fun k hk => ?_, fun z hz => ?_, by rw [he 36 (by decide)]; exact h4, by rw [he 37 (by decide)]; exact h5⟩
  · have := he (16 + k) (by omega)
    rw [← Nat.add_assoc, ← Nat.add_assoc] at this
    rw [this]
    exact h2 k hk
  · have := he (32 + z) (by omega)
    rw [← Nat.add_assoc, ← Nat.add_assoc] at this
    rw [this]
    exact h3 z hz
theorem wx_know {p : Pl} {g : Gd} {hs : Hs} {e : En} {M : Mem} {Q : Option Value → Mem → Prop} (h : RMg 0 p (g, hs) (M.1 46)) (hl : hs.length ≤ 10)
    (hQ : ∀ M', RMg 0 p (g, more e g hs) (M'.1 46) → (∀ j, j < 38 ∨ 419 ≤ j → M'.1 46 j = M.1 46 j) → (∀ q, q ≠ 46 → M'.1 q = M.1 q) → M'.2 = M.2 → Q none M') : WX mi_M_know 1 Q 0 [some (.ref 37), none] [] M := by
  obtain ⟨hb, hn, hh⟩ := h
  have hn' : M.1 46 38 = nI hs.length := by simpa using hn
  -- the copy, behind n kept ones
  have copy : ∀ (n : Nat) (M0 : Mem), n < 10 → M0.1 46 38 = nI n → (∀ M', (∀ j, M'.1 46 j = if j = 38 then nI (n + 1) else if 39 + 38 * n ≤ j ∧ j < 77 + 38 * n then M0.1 46 (j - (39 + 38 * n)) else M0.1 46 j) → (∀ q, q ≠ 46 → M'.1 q = M0.1 q) → M'.2 = M0.2 → Q none M') → WX mi_M_know 1 Q 58 [some (.ref 37), some (.int 0)] [] M0 := by
    intro n M0 hn0 h38 hk
    have loop : ∀ i, i ≤ 38 → ∀ M1 : Mem, (∀ j, M1.1 46 j = if 39 + 38 * n ≤ j ∧ j < 39 + 38 * n + i then M0.1 46 (j - (39 + 38 * n)) else M0.1 46 j) → (∀ q, q ≠ 46 → M1.1 q = M0.1 q) → M1.2 = M0.2 → WX mi_M_know 1 Q 58 [some (.ref 37), some (.int (nI i))] [] M1 := by
      refine downN 38 (fun M1 h1 h2 h3 => ?_) (fun i hi ih M1 h1 h2 h3 => ?_)
      · refine sg_M_know_37_58 M1 _ (fun _ => ?_) (fun c => absurd (by decide) c) (fun c => absurd (by decide) c) (fun c => absurd (by decide) c)
        have e38 : M1.1 46 38 = nI n := by rw [h1 38, if_neg (by omega)]; exact h38
        rw [e38, nI_1]
        refine hk _ (fun j => ?_) (fun q hq => by rw [wr_ne _ hq]; exact h2 q hq) h3
        rw [upd_row]
        by_cases hj : j = 38
        · rw [if_pos hj, if_pos hj]
        · rw [if_neg hj, if_neg hj, h1 j]
          have : (39 + 38 * n ≤ j ∧ j < 39 + 38 * n + 38) ↔ (39 + 38 * n ≤ j ∧ j < 77 + 38 * n) := by omega
          simp only [this]
      · have e38 : M1.1 46 38 = nI n := by rw [h1 38, if_neg (by omega)]; exact h38
        have ei : (39 + 38 * M1.1 46 38) + nI i = nI (39 + 38 * n + i) := by
          rw [e38, ← nI_add, ← nI_add]
          congr 1
          rw [show (39 : Int32) = nI 39 from rfl]
          congr 1
          have : n = 0 ∨ n = 1 ∨ n = 2 ∨ n = 3 ∨ n = 4 ∨ n = 5 ∨ n = 6 ∨ n = 7 ∨ n = 8 ∨ n = 9 := by omega
          rcases this with rfl | rfl | rfl | rfl | rfl | rfl | rfl | rfl | rfl | rfl <;> decide
        refine sg_M_know_37_58 M1 _ (fun c => absurd c (Int32.not_le.mpr (nI_lt (b := 38) hi (by decide)))) (fun _ => vp_in_nI (by omega) (by decide)) (fun _ => by rw [ei]; exact vp_in_nI (by omega) (by decide)) (fun _ => ?_)
        rw [ei, nI_clamp (by omega), nI_clamp (by omega), nI_1]
        refine ih _ (fun j => ?_) (fun q hq => by rw [wr_ne _ hq]; exact h2 q hq) h3
        have ei0 := h1 i
        rw [if_neg (by omega)] at ei0
        rw [upd_row, ei0]
        by_cases hj : j = 39 + 38 * n + i
        · rw [if_pos hj, if_pos (by omega), hj, show 39 + 38 * n + i - (39 + 38 * n) = i by omega]
        · rw [if_neg hj, h1 j]
          by_cases hc : 39 + 38 * n ≤ j ∧ j < 39 + 38 * n + i
          · rw [if_pos hc, if_pos (by omega)]
          · rw [if_neg hc, if_neg (by omega)]
    exact loop 0 (by decide) M0 (fun j => by rw [if_neg (by omega)]) (fun _ _ => rfl) rfl
  by_cases hc : hs.length < 10
  · have hne : ¬ M.1 46 38 = 10 := by
      rw [hn']
      intro q
      have := (nI_eq (a := hs.length) (b := 10) (by omega) (by decide)).mp q
      omega
    refine sg_M_know_37_0 M (fun _ => ?_) (fun c => absurd c hne)
    refine copy hs.length M hc hn' (fun M' h1 h2 h3 => hQ M' ?_ (fun j hj => ?_) h2 h3)
    · rw [more_lt hc]
      refine ⟨blk_congr hb (fun k hk => by rw [h1, if_neg (by omega), if_neg (by omega)]), by show M'.1 46 (0 + 38) = _; rw [h1, if_pos (by omega)]; rfl, fun j e' he => ?_⟩
      cases j with
      | zero =>
        rw [List.getElem?_cons_zero] at he
        cases he
        refine blk_congr (o := 0) hb (fun k hk => ?_)
        show M'.1 46 (0 + 39 + 38 * (hs.length + 1 - 1 - 0) + k) = _
        rw [h1, if_neg (by omega), if_pos (by omega)]
        exact congrArg (M.1 46) (by omega)
      | succ j =>
        rw [List.getElem?_cons_succ] at he
        have hj : j < hs.length := (List.getElem?_eq_some_iff.mp he).1
        refine blk_congr (hh j e' he) (fun k hk => ?_)
        show M'.1 46 (0 + 39 + 38 * (hs.length + 1 - 1 - (j + 1)) + k) = M.1 46 (0 + 39 + 38 * (hs.length - 1 - j) + k)
        rw [show hs.length + 1 - 1 - (j + 1) = hs.length - 1 - j by omega, h1, if_neg (by omega), if_neg (by omega)]
    · rw [h1, if_neg (by omega), if_neg (by omega)]
  · have h10 : hs.length = 10 := by omega
    refine sg_M_know_37_0 M (fun c => absurd (by rw [hn', h10]; rfl) c) (fun _ => ?_)
    have shift : ∀ i, i ≤ 342 → ∀ M1 : Mem, (∀ j, M1.1 46 j = if 39 ≤ j ∧ j < 39 + i then M.1 46 (j + 38) else M.1 46 j) → (∀ q, q ≠ 46 → M1.1 q = M.1 q) → M1.2 = M.2 → WX mi_M_know 1 Q 14 [some (.ref 37), some (.int (nI i))] [] M1 := by
      refine downN 342 (fun M1 h1 h2 h3 => ?_) (fun i hi ih M1 h1 h2 h3 => ?_)
      · refine sg_M_know_37_14 M1 _ (fun _ => ?_) (fun c => absurd (by decide) c) (fun c => absurd (by decide) c) (fun c => absurd (by decide) c)
        have e38 : M1.1 46 38 - 1 = nI 9 := by rw [h1 38, if_neg (by omega), hn', h10]; decide
        rw [e38]
        refine copy 9 _ (by decide) (by simp [wr]) (fun M' g1 g2 g3 => hQ M' ?_ (fun j hj => ?_) (fun q hq => by rw [g2 q hq, wr_ne _ hq]; exact h2 q hq) (by rw [g3]; exact h3))
        · rw [more_eq h10]
          have ln : ((e, g) :: hs.take 9).length = 10 := by rw [List.length_cons, List.length_take, h10]; rfl
          refine ⟨blk_congr hb (fun k hk => by rw [g1, if_neg (by omega), if_neg (by omega), upd_row, if_neg (by omega), h1, if_neg (by omega)]), by show M'.1 46 (0 + 38) = _; rw [g1, if_pos (by omega), ln], fun j e' he => ?_⟩
          show blk (0 + 39 + 38 * (((e, g) :: hs.take 9).length - 1 - j)) p e'.2 (M'.1 46)
          rw [ln]
          cases j with
          | zero =>
            rw [List.getElem?_cons_zero] at he
            cases he
            refine blk_congr (o := 0) hb (fun k hk => ?_)
            rw [g1, if_neg (by omega), if_pos (by omega), upd_row, if_neg (by omega), h1, if_neg (by omega)]
            exact congrArg (M.1 46) (by omega)
          | succ j =>
            rw [List.getElem?_cons_succ] at he
            have hj : j < 9 := by
              have := (List.getElem?_eq_some_iff.mp he).1
              rw [List.length_take] at this
              omega
            have he' : hs[j]? = some e' := by simpa [List.getElem?_take, hj] using he
            have hb' := hh j e' he'
            rw [show ((g, hs) : Gh).2.length = 10 from h10] at hb'
            refine blk_congr hb' (fun k hk => ?_)
            rw [g1, if_neg (by omega), if_neg (by omega), upd_row, if_neg (by omega), h1, if_pos (by omega)]
            exact congrArg (M.1 46) (by omega)
        · rw [g1, if_neg (by omega), if_neg (by omega), upd_row, if_neg (by omega), h1, if_neg (by omega)]
      · have ea : 77 + nI i = nI (77 + i) := by rw [show (77 : Int32) = nI 77 from rfl, nI_add]
        have eb : 39 + nI i = nI (39 + i) := by rw [show (39 : Int32) = nI 39 from rfl, nI_add]
        refine sg_M_know_37_14 M1 _ (fun c => absurd c (Int32.not_le.mpr (nI_lt (b := 342) hi (by decide)))) (fun _ => by rw [ea]; exact vp_in_nI (by omega) (by decide)) (fun _ => by rw [eb]; exact vp_in_nI (by omega) (by decide)) (fun _ => ?_)
        rw [ea, eb, nI_clamp (by omega), nI_clamp (by omega), nI_1]
        refine ih _ (fun j => ?_) (fun q hq => by rw [wr_ne _ hq]; exact h2 q hq) h3
        have ei0 := h1 (77 + i)
        rw [if_neg (by omega)] at ei0
        rw [upd_row, ei0]
        by_cases hj : j = 39 + i
        · rw [if_pos hj, if_pos (by omega), hj]
          exact congrArg (M.1 46) (by omega)
        · rw [if_neg hj, h1 j]
          by_cases hcj : 39 ≤ j ∧ j < 39 + i
          · rw [if_pos hcj, if_pos (by omega)]
          · rw [if_neg hcj, if_neg (by omega)]
    exact shift 0 (by decide) M (fun j => by rw [if_neg (by omega)]) (fun _ _ => rfl) rfl
