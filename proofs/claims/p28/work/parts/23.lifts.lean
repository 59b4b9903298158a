/-! ===== lifts, undo ===== -/
theorem sz_ath {B : Nat} {p : Pl} {g : Gd} {z u : Nat} (hp : WfP p) (hg : WfG B p g) (h : szAt g u = some z) : ath p z u = true := by
  obtain ⟨hu, hz, h3, h4, h5⟩ := szAt_some hg h
  exact (ath_fit hp hz hu).mpr ⟨h4, fun k hk => ⟨(h5 k hk).1, layb_thr (h5 k hk).2.1⟩⟩
theorem td_nI : ∀ z, z < 4 → nI z + 4 = nI (z + 4) := by decide +kernel
