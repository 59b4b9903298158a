/-! ===== more small calls ===== -/
/-- cells of the class that the yard's state doesn't rest on: the reader's told plot, the plot's own heights and stock, water, mender, planner -/
def scrC (q : Nat) : Prop := (3 ≤ q ∧ q ≤ 5) ∨ q = 7 ∨ q = 8 ∨ (30 ≤ q ∧ q < 37)
theorem RC.of_eq {s : Sg} {M M' : Mem} (h : RC s M) (hf : ∀ q, q < 37 → ¬ scrC q → M'.1 q = M.1 q) (h2 : M'.2 0 = M.2 0) : RC s M' := by
  obtain ⟨g1, g2, g3, g4, g5, g6⟩ := h
  have e : ∀ q, q < 30 → q ≠ 3 → q ≠ 4 → q ≠ 5 → q ≠ 7 → q ≠ 8 → M'.1 q = M.1 q := fun q a1 a2 a3 a4 a5 a6 => hf q (by omega) (by unfold scrC; omega)
  have eg : ∀ b gh, 9 ≤ b → b + 6 < 30 → RCg b s.2.1 gh M → RCg b s.2.1 gh M' := by
    intro b gh hb1 hb2 h
    unfold RCg at h ⊢
    rw [e b (by omega) (by omega) (by omega) (by omega) (by omega) (by omega), e (b + 1) (by omega) (by omega) (by omega) (by omega) (by omega) (by omega), e (b + 2) (by omega) (by omega) (by omega) (by omega) (by omega) (by omega), e (b + 3) (by omega) (by omega) (by omega) (by omega) (by omega) (by omega), e (b + 4) (by omega) (by omega) (by omega) (by omega) (by omega) (by omega), e (b + 5) (by omega) (by omega) (by omega) (by omega) (by omega) (by omega), e (b + 6) (by omega) (by omega) (by omega) (by omega) (by omega) (by omega)]
    exact h
  have e0 := e 0 (by decide) (by decide) (by decide) (by decide) (by decide) (by decide)
  have e1 := e 1 (by decide) (by decide) (by decide) (by decide) (by decide) (by decide)
  have e2 := e 2 (by decide) (by decide) (by decide) (by decide) (by decide) (by decide)
  have e6 := e 6 (by decide) (by decide) (by decide) (by decide) (by decide) (by decide)
  refine ⟨?_, ?_, eg 9 _ (by decide) (by decide) g3, ?_, ?_, by rw [h2]; exact g6⟩
  · unfold RCt at g1 ⊢; rw [e1, e2]; exact g1
  · unfold RCp at g2 ⊢; rw [e6]; exact g2
  · exact ⟨by rw [e0]; exact g4.1, fun gh q => eg 16 gh (by decide) (by decide) (g4.2.1 gh q), fun gh q => eg 23 gh (by decide) (by decide) (g4.2.2 gh q)⟩
  · unfold RCs at g5 ⊢; rw [e0]; exact g5
theorem nar_b : ∀ c, c < 256 → vp_nar .byte (nI c).toInt8.toInt32 &&& 255 = nI c := by decide +kernel
theorem getElem?_snoc {α : Type} {t : List α} {c d : α} {j : Nat} (h : (t ++ [c])[j]? = some d) : (j < t.length ∧ t[j]? = some d) ∨ (j = t.length ∧ d = c) := by
  by_cases hj : j < t.length
  · rw [List.getElem?_append_left hj] at h
    exact Or.inl ⟨hj, h⟩
  · rw [List.getElem?_append_right (by omega)] at h
    have h1 : j - t.length < 1 := (List.getElem?_eq_some_iff.mp h).1
    have : j = t.length := by omega
    subst this
    rw [Nat.sub_self] at h
    cases h
    exact Or.inr ⟨rfl, rfl⟩
