theorem few_9 {a : Acc} (h : a.1 ≤ 99) : fewI a = -9 ↔ a.1 = 99 := by
  unfold fewI
  by_cases q : a.1 = 99
  · rw [if_pos q]; exact ⟨fun _ => q, fun _ => rfl⟩
  · rw [if_neg q]
    exact ⟨fun c => absurd c (nI_nm9 (by omega)), fun c => absurd c q⟩
