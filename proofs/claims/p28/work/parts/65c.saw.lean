theorem k_saw {B : Nat} {s : Sg} (x y : Int32) (hw : WfS B s) : ∃ (r : Int32) (s' : Sg), WfS (B + 1) s' ∧ (Tm s s') ∧ K0 mi_C_saw 3 [.int x, .int y] s (.int r) s' := by
  obtain ⟨t, p, gh, im, sn, tr⟩ := s
  have hup := hw.up (show B ≤ B + 1 by omega)
  have hp : WfP p := hw.2.1
  have hlen : sn.length ≤ 6 := hw.2.2.2.2.2.1
  cases ho : okd p x y with
  | false =>
    refine ⟨-1, (t, p, gh, im, sn, tr), hup, Tm.of rfl rfl rfl rfl, fun M Q hc hQ => ?_⟩
    · have e : z_L_isOpen_6 M x y = 0 := by rw [isOpen_C hp hc.2.1, ho]; rfl
      exact sg_C_saw_0_0 M x y (fun q => absurd e q) (fun q => absurd e q) (fun _ => hQ M hc (FrC.refl M))
  | true =>
    obtain ⟨k, hk, rfl, rfl, ht, hl⟩ := okd_cell hp ho
    by_cases hf : sn.length = 6
    · refine ⟨-3, (t, p, gh, im, sn, tr), hup, Tm.of rfl rfl rfl rfl, fun M Q hc hQ => ?_⟩
      · have e : ¬ z_L_isOpen_6 M (nI (k % 4)) (nI (k / 4)) = 0 := by rw [isOpen_C hp hc.2.1, ho]; decide
        have h6 : ¬ M.1 0 10 < 6 := by rw [hc.2.2.2.2.1.2, hf]; decide
        exact sg_C_saw_0_0 M _ _ (fun _ q => absurd q h6) (fun _ _ => hQ M hc (FrC.refl M)) (fun q => absurd q e)
    · have hlt : sn.length < 6 := by omega
      refine ⟨nI (sn.length + 1), (t, p, gh, im, sn ++ [k], tr), ?_, Tm.of rfl rfl rfl rfl, fun M Q hc hQ => ?_⟩
      · refine ⟨hup.1, hup.2.1, hup.2.2.1, hup.2.2.2.1, hup.2.2.2.2.1, by rw [List.length_append]; simp; omega, fun d hd => ?_⟩
        rcases List.mem_append.mp hd with h | h
        · exact hup.2.2.2.2.2.2 d h
        · rw [List.mem_singleton.mp h]; exact ⟨hk, ht, hl⟩
      · have e : ¬ z_L_isOpen_6 M (nI (k % 4)) (nI (k / 4)) = 0 := by rw [isOpen_C hp hc.2.1, ho]; decide
        have h6 : M.1 0 10 < 6 := by rw [hc.2.2.2.2.1.2]; exact nI_lt (b := 6) hlt (by decide)
        refine sg_C_saw_0_0 M _ _ (fun _ _ => ?_) (fun _ q => absurd h6 q) (fun q => absurd q e)
        obtain ⟨h1, h2, h3, h4, h5, h6'⟩ := hc
        rw [numOf k hk, sI_one hk, h5.1, sI_or, h5.2, nI_1]
        refine hQ _ ⟨?_, ?_, ?_, ?_, ⟨?_, ?_⟩, h6'⟩ (((FrC.refl M).wr (by decide)).wr (by decide))
        · simpa [RCt, wr] using h1
        · simpa [RCp, wr] using h2
        · simpa [RCg, wr] using h3
        · simpa [RCi, RCg, wr] using h4
        · simp only [wr]
          simp
        · simp [wr]
