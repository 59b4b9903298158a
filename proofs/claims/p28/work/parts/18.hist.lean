/-! ===== what was done is remembered: the class's entries, the model's states ===== -/
def RCh (b : Nat) (hs : Hs) (M : Mem) : Prop := M.1 b 8 = nI hs.length ∧ ∀ j e, hs[j]? = some e → M.1 (b + 4) (hs.length - 1 - j) = nI e.1.1 ∧ M.1 (b + 5) (hs.length - 1 - j) = nI e.1.2.1 ∧ M.1 (b + 6) (hs.length - 1 - j) = nI e.1.2.2
theorem RCg.h {b : Nat} {p : Pl} {gh : Gh} {M : Mem} (h : RCg b p gh M) : RCh b gh.2 M := ⟨h.2.2.2.2.2.1, h.2.2.2.2.2.2⟩
/-- one more, the oldest of eleven is lost -/
def more (e : En) (g : Gd) (hs : Hs) : Hs := ((e, g) :: hs).take 10
theorem more_lt {e : En} {g : Gd} {hs : Hs} (h : hs.length < 10) : more e g hs = (e, g) :: hs := by
  unfold more
  rw [List.take_of_length_le]
  rw [List.length_cons]
  omega
theorem more_eq {e : En} {g : Gd} {hs : Hs} (h : hs.length = 10) : more e g hs = (e, g) :: hs.take 9 := rfl
theorem more_len {e : En} {g : Gd} {hs : Hs} (h : hs.length ≤ 10) : (more e g hs).length = min (hs.length + 1) 10 := by
  unfold more
  rw [List.length_take, List.length_cons]
  omega
theorem upd_row (M : Mem) (p k : Nat) (v : Int32) (j : Nat) : (wr M p k v).1 p j = if j = k then v else M.1 p j := by simp [wr]
theorem wx_remember {hs : Hs} {e : En} {g : Gd} {M : Mem} {Q : Option Value → Mem → Prop} (h : RCh 9 hs M) (hl : hs.length ≤ 10)
    (hQ : ∀ M', RCh 9 (more e g hs) M' → (∀ q, q ≠ 9 → q ≠ 13 → q ≠ 14 → q ≠ 15 → M'.1 q = M.1 q) → (∀ k, k ≠ 8 → M'.1 9 k = M.1 9 k) → M'.2 = M.2 → Q none M') :
    WX mi_G_remember 1 Q 0 [some (.ref 9), some (.int (nI e.1)), some (.int (nI e.2.1)), some (.int (nI e.2.2)), none] [] M := by
  have hn : M.1 9 8 = nI hs.length := h.1
  by_cases hc : hs.length < 10
  · have hlt : M.1 9 8 < 10 := by rw [hn]; exact nI_lt (b := 10) hc (by decide)
    refine sg_G_remember_9_0 M _ _ _ (fun _ => by rw [hn]; exact vp_in_nI hc (by decide)) (fun _ => ?_) (fun c => absurd hlt c)
    rw [hn, nI_clamp (by omega), nI_1]
    refine hQ _ ?_ (fun q a b c d => by simp [wr, a, b, c, d]) (fun k hk => by simp [wr, hk]) rfl
    rw [more_lt hc]
    refine ⟨by simp [wr], fun j e' he => ?_⟩
    cases j with
    | zero =>
      rw [List.getElem?_cons_zero] at he
      cases he
      simp [wr]
    | succ j =>
      rw [List.getElem?_cons_succ] at he
      have hj : j < hs.length := (List.getElem?_eq_some_iff.mp he).1
      have := h.2 j e' he
      rw [List.length_cons, show hs.length + 1 - 1 - (j + 1) = hs.length - 1 - j by omega]
      have ne : hs.length - 1 - j ≠ hs.length := by omega
      simpa [wr, ne] using this
  · have h10 : hs.length = 10 := by omega
    have hlt : ¬ M.1 9 8 < 10 := by rw [hn, h10]; decide
    refine sg_G_remember_9_0 M _ _ _ (fun c => absurd c hlt) (fun c => absurd c hlt) (fun _ => ?_)
    have loop : ∀ i, i ≤ 10 → 1 ≤ i → ∀ M1 : Mem, (∀ r, r = 13 ∨ r = 14 ∨ r = 15 → ∀ j, M1.1 r j = if j + 1 < i then M.1 r (j + 1) else M.1 r j) → (∀ q, q ≠ 13 → q ≠ 14 → q ≠ 15 → M1.1 q = M.1 q) → M1.2 = M.2 →
        WX mi_G_remember 1 Q 12 [some (.ref 9), some (.int (nI e.1)), some (.int (nI e.2.1)), some (.int (nI e.2.2)), some (.int (nI i))] [] M1 := by
      refine downN 10 (fun _ M1 h1 h2 h3 => ?_) (fun i hi ih h0 M1 h1 h2 h3 => ?_)
      · refine sg_G_remember_9_12 M1 _ _ _ _ (fun _ => ?_) (fun c => absurd (by decide) c) (fun c => absurd (by decide) c) (fun c => absurd (by decide) c)
        refine hQ _ ?_ (fun q a b c d => by simp [wr, a, b, c, d, h2 q b c d]) (fun k hk => by simp [wr, hk, h2 9 (by decide) (by decide) (by decide)]) h3
        rw [more_eq h10]
        refine ⟨by simp [wr, h10]; decide, fun j e' he => ?_⟩
        cases j with
        | zero =>
          rw [List.getElem?_cons_zero] at he
          cases he
          simp [wr, h10]
        | succ j =>
          rw [List.getElem?_cons_succ] at he
          have hj : j < 9 := by
            have := (List.getElem?_eq_some_iff.mp he).1
            rw [List.length_take] at this
            omega
          have he' : hs[j]? = some e' := by simpa [List.getElem?_take, hj] using he
          have := h.2 j e' he'
          rw [h10] at this
          rw [List.length_cons, List.length_take, h10, show min 9 10 + 1 - 1 - (j + 1) = 8 - j by omega]
          have ne : 8 - j ≠ 9 := by omega
          have e13 := h1 13 (Or.inl rfl) (8 - j)
          have e14 := h1 14 (Or.inr (Or.inl rfl)) (8 - j)
          have e15 := h1 15 (Or.inr (Or.inr rfl)) (8 - j)
          rw [if_pos (by omega), show 8 - j + 1 = 10 - 1 - j by omega] at e13 e14 e15
          simp [wr, ne, e13, e14, e15]
          simpa using this
      · have e1 : nI i - 1 = nI (i - 1) := by
          have := nI_pred (i - 1)
          rw [show i - 1 + 1 = i by omega] at this
          exact this
        refine sg_G_remember_9_12 M1 _ _ _ _ (fun c => absurd c (Int32.not_le.mpr (nI_lt (b := 10) hi (by decide)))) (fun _ => vp_in_nI hi (by decide)) (fun _ => by rw [e1]; exact vp_in_nI (by omega) (by decide)) (fun _ => ?_)
        rw [e1, nI_clamp (by omega), nI_clamp (by omega), nI_1]
        refine ih (by omega) _ ?_ (fun q a b c => by simp [wr, a, b, c, h2 q a b c]) h3
        intro r hr j
        have g1 := h1 r hr j
        have g2 := h1 r hr i
        rw [if_neg (by omega)] at g2
        rcases hr with rfl | rfl | rfl <;> simp only [wr] <;> simp <;> by_cases hj : j = i - 1
        all_goals first
          | (subst hj; rw [if_pos rfl, if_pos (by omega), g2, show i - 1 + 1 = i by omega])
          | (rw [if_neg hj, g1]; by_cases hk : j + 1 < i
             · rw [if_pos hk, if_pos (by omega)]
             · rw [if_neg hk, if_neg (by omega)])
    exact loop 1 (by decide) (by decide) M (fun r _ j => by rw [if_neg (by omega)]) (fun _ _ _ _ => rfl) rfl
theorem blk_congr {o o' : Nat} {p : Pl} {g : Gd} {f f' : Nat → Int32} (h : blk o p g f) (he : ∀ k, k < 38 → f' (o' + k) = f (o + k)) : blk o' p g f' := by
  obtain ⟨h1, h2, h3, h4, h5⟩ := h
  refine ⟨fun k hk ht => by rw [he k (by omega)]; exact h1 k hk ht, fun k hk => ?_, fun z hz => ?_, by rw [he 36 (by decide)]; exact h4, by rw [he 37 (by decide)]; exact h5⟩
  · have := he (16 + k) (by omega)
    rw [← Nat.add_assoc, ← Nat.add_assoc] at this
    rw [this]
    exact h2 k hk
  · have := he (32 + z) (by omega)
    rw [← Nat.add_assoc, ← Nat.add_assoc] at this
    rw [this]
    exact h3 z hz
