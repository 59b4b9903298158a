/-! ===== slabs side by side; crosses ===== -/
theorem inT2 : ∀ c, c < 64 → ∀ k, k < 22 → inT 2 c k = (inS c k && inS c (k + 1)) := by decide +kernel
theorem inT3 : ∀ c, c < 64 → ∀ k, k < 22 → inT 3 c k = (inS c k && inS c (k + 4)) := by decide +kernel
theorem inS_d1 : ∀ c, c < 64 → ∀ k, k < 22 → inS c (k + 1) = true → inS c (k + 4) = true → inS c k = true := by decide +kernel
theorem inS_d2 : ∀ c, c < 64 → ∀ k, k < 22 → inS c k = true → inS c (k + 5) = true → inS c (k + 1) = true := by decide +kernel
/-- the same slab lies on both -/
def smS (g : Gd) (a b : Nat) : Bool := (gSl g a).isSome && decide (gSl g b = gSl g a)
theorem sm_iff {B : Nat} {p : Pl} {g : Gd} (hg : WfG B p g) {a b : Nat} : smS g a b = true ↔ ∃ c, gSl g a = some c ∧ inS c b = true := by
  unfold smS
  simp only [Bool.and_eq_true, decide_eq_true_eq]
  constructor
  · rintro ⟨h1, h2⟩
    obtain ⟨c, hc⟩ := Option.isSome_iff_exists.mp h1
    rw [hc] at h2
    exact ⟨c, hc, (szAt_of hg h2).2.1⟩
  · rintro ⟨c, hc, hb⟩
    rw [hc]
    exact ⟨rfl, ((hg.2.1 a c hc).2.2.2 b hb).2.2⟩
theorem jn_any {B : Nat} {p : Pl} {g : Gd} (hg : WfG B p g) {t d : Nat} (ht : ∀ c, c < 64 → ∀ k, k < 22 → inT t c k = (inS c k && inS c (k + d))) {k : Nat} (hk : k < 16) : jnT t g 16 k = smS g k (k + d) := by
  rw [Bool.eq_iff_iff, sm_iff hg]
  unfold jnT
  rw [List.any_eq_true]
  constructor
  · rintro ⟨u, -, hu⟩
    unfold jnA at hu
    cases hs : szAt g u with
    | none => rw [hs] at hu; cases hu
    | some z =>
      rw [hs] at hu
      obtain ⟨h1, h2, h3, h4, h5⟩ := szAt_some hg hs
      dsimp only at hu
      rw [ht (16 * z + u) (by omega) k (by omega)] at hu
      simp only [Bool.and_eq_true] at hu
      exact ⟨16 * z + u, (h5 k hu.1).2.2, hu.2⟩
  · rintro ⟨c, hc, hb⟩
    obtain ⟨h1, h2, h3, h4⟩ := szAt_of hg hc
    refine ⟨c % 16, List.mem_range.mpr (by omega), ?_⟩
    unfold jnA
    rw [h1]
    show inT t (16 * (c / 16) + c % 16) k = true
    rw [show 16 * (c / 16) + c % 16 = c by omega, ht c h4 k (by omega), h2, hb]
    rfl
theorem jn_2 {B : Nat} {p : Pl} {g : Gd} (hg : WfG B p g) {k : Nat} (hk : k < 16) : jnT 2 g 16 k = smS g k (k + 1) := jn_any hg inT2 hk
theorem jn_3 {B : Nat} {p : Pl} {g : Gd} (hg : WfG B p g) {k : Nat} (hk : k < 16) : jnT 3 g 16 k = smS g k (k + 4) := jn_any hg inT3 hk
/-- unlike slabs lie on both -/
def prt (g : Gd) (a b : Nat) : Bool := (gSl g a).isSome && (gSl g b).isSome && !decide (gSl g a = gSl g b)
def crs (g : Gd) (k : Nat) : Bool := decide (k % 4 ≠ 3) && decide (k < 12) && (prt g k (k + 1) && prt g k (k + 4) && prt g k (k + 5) && prt g (k + 1) (k + 4) && prt g (k + 1) (k + 5) && prt g (k + 4) (k + 5))
theorem cross_C {B : Nat} {p : Pl} {g : Gd} (hg : WfG B p g) : z_C_crossPoints (sI (fun k => (gSl g k).isSome)) (sI (jnT 2 g 16)) (sI (jnT 3 g 16)) = sI (crs g) := by
  unfold z_C_crossPoints
  have s1 : ∀ f : Nat → Bool, shr (sI f) 1 = sI (fun k => decide (k + 1 < 16) && f (k + 1)) := fun f => sI_shr (n := 1) (by decide)
  have s4 : ∀ f : Nat → Bool, shr (sI f) 4 = sI (fun k => decide (k + 4 < 16) && f (k + 4)) := fun f => sI_shr (n := 4) (by decide)
  have s5 : ∀ f : Nat → Bool, shr (sI f) 5 = sI (fun k => decide (k + 5 < 16) && f (k + 5)) := fun f => sI_shr (n := 5) (by decide)
  rw [s1, s4, s5, s4, s1, sI_or, sI_or, sI_or, sI_and, sI_and, sI_and, sI_diff, c_30583, c_4095, sI_and, sI_and]
  refine sI_ext fun k hk => ?_
  unfold crs
  by_cases h12 : k < 12
  · by_cases h3 : k % 4 ≠ 3
    · have k5 : k + 5 < 16 := by omega
      rw [decide_eq_true h12, decide_eq_true h3, decide_eq_true (show k + 1 < 16 by omega), decide_eq_true (show k + 4 < 16 by omega), decide_eq_true k5]
      simp only [Bool.true_and, Bool.and_true]
      rw [jn_2 hg hk, jn_2 hg (show k + 4 < 16 by omega), jn_3 hg hk, jn_3 hg (show k + 1 < 16 by omega), show k + 4 + 1 = k + 5 by omega, show k + 1 + 4 = k + 5 by omega]
      unfold smS prt
      cases e0 : gSl g k with
      | none => simp
      | some c0 => cases e1 : gSl g (k + 1) with
        | none => simp
        | some c1 => cases e4 : gSl g (k + 4) with
          | none => simp
          | some c4 => cases e5 : gSl g (k + 5) with
            | none => simp
            | some c5 =>
              have i0 := szAt_of hg e0
              have i1 := szAt_of hg e1
              have i4 := szAt_of hg e4
              have i5 := szAt_of hg e5
              have d1 : c0 = c5 → c1 = c0 := fun q => by
                have := inS_d2 c0 i0.2.2.2 k (by omega) i0.2.1 (by rw [q]; exact i5.2.1)
                have := ((hg.2.1 k c0 e0).2.2.2 (k + 1) this).2.2
                rw [e1] at this
                cases this; rfl
              have d2 : c1 = c4 → c0 = c1 := fun q => by
                have := inS_d1 c1 i1.2.2.2 k (by omega) i1.2.1 (by rw [q]; exact i4.2.1)
                have := ((hg.2.1 (k + 1) c1 e1).2.2.2 k this).2.2
                rw [e0] at this
                cases this; rfl
              rw [Bool.eq_iff_iff]
              simp only [Option.isSome_some, Bool.true_and, Bool.and_true, Option.some.injEq, Bool.not_or, Bool.and_eq_true, Bool.not_eq_true', decide_eq_false_iff_not]
              constructor
              · rintro ⟨⟨⟨a1, a2⟩, a3⟩, a4⟩
                exact ⟨⟨⟨⟨⟨fun q => a1 q.symm, fun q => a3 q.symm⟩, fun q => a1 (d1 q)⟩, fun q => a1 (d2 q).symm⟩, fun q => a4 q.symm⟩, fun q => a2 q.symm⟩
              · rintro ⟨⟨⟨⟨⟨b1, b2⟩, b3⟩, b4⟩, b5⟩, b6⟩
                exact ⟨⟨⟨fun q => b1 q.symm, fun q => b6 q.symm⟩, fun q => b2 q.symm⟩, fun q => b5 q.symm⟩
    · rw [decide_eq_false h3]; simp
  · rw [decide_eq_false h12]; simp
