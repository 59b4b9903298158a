/-! ===== sets of cells as the class gathers them ===== -/
theorem shl_row : ∀ w, w < 5 → ∀ y, y < 4 → shl (shl 1 (nI w) - 1) (4 * nI y) = sI (fun k => decide (k % 4 < w) && decide (k / 4 = y)) := by decide +kernel
theorem wx_cells {p : Pl} {M : Mem} {Q : Option Value → Mem → Prop} (hp : WfP p) (h : RCp p M) (hq : Q (some (.int (sI (thr p)))) M) : WX mi_L_cells 1 Q 0 [some (.ref 6), none, none, none] [] M := by
  refine sg_L_cells_6_0 M ?_
  rw [h.1]
  have hr := hp.2.1
  have loop : ∀ y, y ≤ pR p → WX mi_L_cells 1 Q 13 [some (.ref 6), some (.int (shl 1 (nI (pW p)) - 1)), some (.int (sI (fun k => thr p k && decide (k / 4 < y)))), some (.int (nI y))] [] M := by
    refine downN (pR p) ?_ (fun y hy ih => ?_)
    · refine sg_L_cells_6_13 M _ _ _ (fun _ => ?_) (fun c => absurd (by rw [h.2.1]; exact Int32.le_refl _) c)
      have e : sI (fun k => thr p k && decide (k / 4 < pR p)) = sI (thr p) := sI_ext fun k _ => by
        unfold thr
        cases h1 : decide (k % 4 < pW p) <;> cases h2 : decide (k / 4 < pR p) <;> simp_all
      rw [e]
      exact hq
    · refine sg_L_cells_6_13 M _ _ _ (fun c => absurd c ?_) (fun _ => ?_)
      · rw [h.2.1]
        exact Int32.not_le.mpr (nI_lt hy (by omega))
      · rw [shl_row (pW p) (by have := hp.1; omega) y (by omega), sI_or, nI_1]
        have e : sI (fun k => (thr p k && decide (k / 4 < y)) || (decide (k % 4 < pW p) && decide (k / 4 = y))) = sI (fun k => thr p k && decide (k / 4 < y + 1)) := sI_ext fun k _ => by
          unfold thr
          rw [Bool.eq_iff_iff]
          simp only [Bool.or_eq_true, Bool.and_eq_true, decide_eq_true_eq]
          omega
        rw [e]
        exact ih
  have h0 := loop 0 (Nat.zero_le _)
  have e : sI (fun k => thr p k && decide (k / 4 < 0)) = 0 := by
    rw [sI_zero]
    intro k _
    simp
  rw [e] at h0
  exact h0
theorem wx_layable {p : Pl} {M : Mem} {Q : Option Value → Mem → Prop} (hp : WfP p) (h : RCp p M) (hq : Q (some (.int (sI (layb p)))) M) : WX mi_L_layable 2 Q 0 [some (.ref 6)] [] M := by
  refine sg_L_layable_6_0 M ?_
  refine wx_cells hp h ?_
  refine sg_L_layable_6_4 M _ ?_
  rw [h.2.2.2.1, h.2.2.2.2, sI_diff, sI_diff]
  exact hq
/-- the tables by size: SHAPES, JOINED_RIGHT, JOINED_DOWN -/
def tbS (t z : Nat) : Nat := ((([[51, 3, 17, 1], [], [17, 1, 0, 0], [3, 0, 1, 0]] : List (List Nat)).getD t []).getD z 0)
def inT (t c k : Nat) : Bool := decide (c % 16 ≤ k) && (tbS t (c / 16)).testBit (k - c % 16)
theorem inT_0 (c k : Nat) : inT 0 c k = inS c k := rfl
def fitD (c : Nat) : Bool := (List.range 24).all (fun j => !inS c j || decide (j < 16))
theorem fitD_of {c : Nat} (h : ∀ j, inS c j = true → j < 16) : fitD c = true := by
  unfold fitD
  rw [List.all_eq_true]
  intro j _
  cases hj : inS c j with
  | false => rfl
  | true => simp [h j hj]
theorem bitsAt_0 : ∀ z, z < 4 → ∀ u, u < 16 → fitD (16 * z + u) = true → z_C_bitsAt_100 (nI z) (nI u) = sI (inT 0 (16 * z + u)) := by decide +kernel
theorem bitsAt_2 : ∀ z, z < 4 → ∀ u, u < 16 → fitD (16 * z + u) = true → z_C_bitsAt_102 (nI z) (nI u) = sI (inT 2 (16 * z + u)) := by decide +kernel
theorem bitsAt_3 : ∀ z, z < 4 → ∀ u, u < 16 → fitD (16 * z + u) = true → z_C_bitsAt_103 (nI z) (nI u) = sI (inT 3 (16 * z + u)) := by decide +kernel
theorem szAt_some {B : Nat} {p : Pl} {g : Gd} (hg : WfG B p g) {u z : Nat} (h : szAt g u = some z) : u < 16 ∧ z < 4 ∧ gSl g u = some (16 * z + u) ∧ fitR (16 * z + u) ∧ ∀ j, inS (16 * z + u) j = true → j < 16 ∧ layb p j = true ∧ gSl g j = some (16 * z + u) := by
  unfold szAt at h
  cases hs : gSl g u with
  | none => rw [hs] at h; cases h
  | some c =>
    rw [hs] at h
    dsimp only at h
    by_cases hc : c % 16 = u
    · rw [if_pos hc] at h
      cases h
      obtain ⟨h1, h2, h3, h4⟩ := hg.2.1 u c hs
      have e : 16 * (c / 16) + u = c := by omega
      rw [e]
      exact ⟨h1, by have := h2.1; omega, rfl, h2, h4⟩
    · rw [if_neg hc] at h
      cases h
theorem inS_self : ∀ c, c < 64 → inS c (c % 16) = true := by decide +kernel
theorem szAt_of {B : Nat} {p : Pl} {g : Gd} (hg : WfG B p g) {k c : Nat} (h : gSl g k = some c) : szAt g (c % 16) = some (c / 16) ∧ inS c k = true ∧ k < 16 ∧ c < 64 := by
  obtain ⟨h1, h2, h3, h4⟩ := hg.2.1 k c h
  have h5 := (h4 (c % 16) (inS_self c h2.1)).2.2
  refine ⟨?_, h3, h1, h2.1⟩
  unfold szAt
  rw [h5]
  simp
theorem szAt_fit {B : Nat} {p : Pl} {g : Gd} (hg : WfG B p g) {u z : Nat} (h : szAt g u = some z) : fitD (16 * z + u) = true := fitD_of fun j hj => ((szAt_some hg h).2.2.2.2 j hj).1
/-- a table's bits of the slab that begins at u -/
def jnA (t : Nat) (g : Gd) (u k : Nat) : Bool := match szAt g u with
  | some z => inT t (16 * z + u) k
  | none => false
def jnT (t : Nat) (g : Gd) (n k : Nat) : Bool := (List.range n).any (fun u => jnA t g u k)
theorem jnT_0 (t : Nat) (g : Gd) (k : Nat) : jnT t g 0 k = false := rfl
theorem jnT_s (t : Nat) (g : Gd) (n k : Nat) : jnT t g (n + 1) k = (jnT t g n k || jnA t g n k) := by
  unfold jnT
  rw [List.range_succ, List.any_append]
  simp
theorem m9_lt : (-9 : Int32) < 0 := by decide
theorem bitsAt_all {B : Nat} {p : Pl} {g : Gd} (hg : WfG B p g) {u : Nat} (hu : u < 16) : z_C_bitsAt_100 (eSz (szAt g u)) (nI u) = sI (jnA 0 g u) ∧ z_C_bitsAt_102 (eSz (szAt g u)) (nI u) = sI (jnA 2 g u) ∧ z_C_bitsAt_103 (eSz (szAt g u)) (nI u) = sI (jnA 3 g u) := by
  cases hs : szAt g u with
  | none =>
    have e : ∀ t, jnA t g u = fun _ => false := fun t => by funext k; unfold jnA; rw [hs]
    rw [e, e, e, sI_none]
    exact ⟨by unfold z_C_bitsAt_100; rw [if_pos]; exact m9_lt, by unfold z_C_bitsAt_102; rw [if_pos]; exact m9_lt, by unfold z_C_bitsAt_103; rw [if_pos]; exact m9_lt⟩
  | some z =>
    have e : ∀ t, jnA t g u = inT t (16 * z + u) := fun t => by funext k; unfold jnA; rw [hs]
    obtain ⟨-, hz, -⟩ := szAt_some hg hs
    have hf := szAt_fit hg hs
    rw [e, e, e]
    exact ⟨bitsAt_0 z hz u hu hf, bitsAt_2 z hz u hu hf, bitsAt_3 z hz u hu hf⟩
theorem eSz_in {B : Nat} {p : Pl} {g : Gd} (hg : WfG B p g) (u : Nat) (h1 : ¬ eSz (szAt g u) < 0) : vp_in (eSz (szAt g u)) 4 := by
  cases hs : szAt g u with
  | none => rw [hs] at h1; exact absurd m9_lt h1
  | some z => exact vp_in_nI (szAt_some hg hs).2.1 (by decide)
theorem lt16 {k : Nat} (hk : k < 16) : ¬ (16 : Int32) ≤ nI k := Int32.not_le.mpr (nI_lt (b := 16) hk (by decide))
theorem ge16 : (16 : Int32) ≤ nI 16 := by decide
theorem wx_joined_0 {B : Nat} {p : Pl} {gh : Gh} {M : Mem} {Q : Option Value → Mem → Prop} (hg : WfG B p gh.1) (h : RCg 9 p gh M) (hq : Q (some (.int (sI (jnT 0 gh.1 16)))) M) : WX mi_G_joined 2 Q 0 [some (.ref 9), some (.ref 100), none, none] [] M := by
  refine sg_G_joined_9_100_0 M ?_
  have loop : ∀ u, u ≤ 16 → WX mi_G_joined 2 Q 4 [some (.ref 9), some (.ref 100), some (.int (sI (jnT 0 gh.1 u))), some (.int (nI u))] [] M := by
    refine downN 16 ?_ (fun u hu ih => ?_)
    · exact sg_G_joined_9_100_4 M _ _ (fun _ => hq) (fun c => absurd ge16 c) (fun c => absurd ge16 c) (fun c => absurd ge16 c)
    · have e : M.1 11 (nI u).toNatClampNeg = eSz (szAt gh.1 u) := by rw [nI_clamp (by omega)]; exact h.2.1 u hu
      refine sg_G_joined_9_100_4 M _ _ (fun c => absurd c (lt16 hu)) (fun _ => vp_in_nI hu (by decide)) (fun _ c _ => by rw [e] at c ⊢; exact eSz_in hg u c) (fun _ => ?_)
      rw [e, (bitsAt_all hg hu).1, sI_or, nI_1, sI_ext (fun k _ => (jnT_s 0 gh.1 u k).symm)]
      exact ih
  have h0 := loop 0 (by decide)
  rw [show sI (jnT 0 gh.1 0) = 0 from sI_zero.mpr (fun k _ => rfl)] at h0
  exact h0
theorem wx_joined_2 {B : Nat} {p : Pl} {gh : Gh} {M : Mem} {Q : Option Value → Mem → Prop} (hg : WfG B p gh.1) (h : RCg 9 p gh M) (hq : Q (some (.int (sI (jnT 2 gh.1 16)))) M) : WX mi_G_joined 2 Q 0 [some (.ref 9), some (.ref 102), none, none] [] M := by
  refine sg_G_joined_9_102_0 M ?_
  have loop : ∀ u, u ≤ 16 → WX mi_G_joined 2 Q 4 [some (.ref 9), some (.ref 102), some (.int (sI (jnT 2 gh.1 u))), some (.int (nI u))] [] M := by
    refine downN 16 ?_ (fun u hu ih => ?_)
    · exact sg_G_joined_9_102_4 M _ _ (fun _ => hq) (fun c => absurd ge16 c) (fun c => absurd ge16 c) (fun c => absurd ge16 c)
    · have e : M.1 11 (nI u).toNatClampNeg = eSz (szAt gh.1 u) := by rw [nI_clamp (by omega)]; exact h.2.1 u hu
      refine sg_G_joined_9_102_4 M _ _ (fun c => absurd c (lt16 hu)) (fun _ => vp_in_nI hu (by decide)) (fun _ c _ => by rw [e] at c ⊢; exact eSz_in hg u c) (fun _ => ?_)
      rw [e, (bitsAt_all hg hu).2.1, sI_or, nI_1, sI_ext (fun k _ => (jnT_s 2 gh.1 u k).symm)]
      exact ih
  have h0 := loop 0 (by decide)
  rw [show sI (jnT 2 gh.1 0) = 0 from sI_zero.mpr (fun k _ => rfl)] at h0
  exact h0
theorem wx_joined_3 {B : Nat} {p : Pl} {gh : Gh} {M : Mem} {Q : Option Value → Mem → Prop} (hg : WfG B p gh.1) (h : RCg 9 p gh M) (hq : Q (some (.int (sI (jnT 3 gh.1 16)))) M) : WX mi_G_joined 2 Q 0 [some (.ref 9), some (.ref 103), none, none] [] M := by
  refine sg_G_joined_9_103_0 M ?_
  have loop : ∀ u, u ≤ 16 → WX mi_G_joined 2 Q 4 [some (.ref 9), some (.ref 103), some (.int (sI (jnT 3 gh.1 u))), some (.int (nI u))] [] M := by
    refine downN 16 ?_ (fun u hu ih => ?_)
    · exact sg_G_joined_9_103_4 M _ _ (fun _ => hq) (fun c => absurd ge16 c) (fun c => absurd ge16 c) (fun c => absurd ge16 c)
    · have e : M.1 11 (nI u).toNatClampNeg = eSz (szAt gh.1 u) := by rw [nI_clamp (by omega)]; exact h.2.1 u hu
      refine sg_G_joined_9_103_4 M _ _ (fun c => absurd c (lt16 hu)) (fun _ => vp_in_nI hu (by decide)) (fun _ c _ => by rw [e] at c ⊢; exact eSz_in hg u c) (fun _ => ?_)
      rw [e, (bitsAt_all hg hu).2.2, sI_or, nI_1, sI_ext (fun k _ => (jnT_s 3 gh.1 u k).symm)]
      exact ih
  have h0 := loop 0 (by decide)
  rw [show sI (jnT 3 gh.1 0) = 0 from sI_zero.mpr (fun k _ => rfl)] at h0
  exact h0
theorem cov_sl {B : Nat} {p : Pl} {g : Gd} (hg : WfG B p g) (k : Nat) : jnT 0 g 16 k = (gSl g k).isSome := by
  rw [Bool.eq_iff_iff]
  unfold jnT
  rw [List.any_eq_true]
  constructor
  · rintro ⟨u, -, hu⟩
    unfold jnA at hu
    cases hs : szAt g u with
    | none => rw [hs] at hu; cases hu
    | some z =>
      rw [hs] at hu
      rw [((szAt_some hg hs).2.2.2.2 k hu).2.2]
      rfl
  · intro hk
    obtain ⟨c, hc⟩ := Option.isSome_iff_exists.mp hk
    obtain ⟨h1, h2, h3, h4⟩ := szAt_of hg hc
    refine ⟨c % 16, List.mem_range.mpr (by omega), ?_⟩
    unfold jnA
    rw [h1]
    show inT 0 (16 * (c / 16) + c % 16) k = true
    rw [show 16 * (c / 16) + c % 16 = c by omega]
    exact h2
theorem wx_covered {B : Nat} {p : Pl} {gh : Gh} {M : Mem} {Q : Option Value → Mem → Prop} (hg : WfG B p gh.1) (h : RCg 9 p gh M) (hq : Q (some (.int (sI (fun k => (gSl gh.1 k).isSome)))) M) : WX mi_G_covered 3 Q 0 [some (.ref 9)] [] M := by
  refine sg_G_covered_9_0 M ?_
  refine wx_joined_0 hg h ?_
  refine sg_G_covered_9_7 M _ ?_
  rw [sI_ext (fun k _ => cov_sl hg k)]
  exact hq
/-- cells that are free -/
def fre (p : Pl) (g : Gd) (k : Nat) : Bool := layb p k && !(gSl g k).isSome
theorem wx_freeCells {B : Nat} {p : Pl} {gh : Gh} {M : Mem} {Q : Option Value → Mem → Prop} (hp : WfP p) (hg : WfG B p gh.1) (hc : RCp p M) (h : RCg 9 p gh M) (hq : Q (some (.int (sI (fre p gh.1)))) M) : WX mi_C_freeCells 4 Q 0 [some (.ref 0)] [] M := by
  refine sg_C_freeCells_0_0 M ?_
  refine wx_layable hp hc ?_
  refine sg_C_freeCells_0_7 M _ ?_
  refine wx_covered hg h ?_
  refine sg_C_freeCells_0_14 M _ _ ?_
  rw [sI_diff]
  exact hq
theorem cellsOf_z {B : Nat} {p : Pl} {gh : Gh} {M : Mem} (hg : WfG B p gh.1) (h : RCg 9 p gh M) {u : Nat} (hu : u < 16) : z_G_cellsOf_9 M (nI u) = sI (jnA 0 gh.1 u) := by
  unfold z_G_cellsOf_9
  rw [nI_clamp (by omega), h.2.1 u hu]
  exact (bitsAt_all hg hu).1
/-- the upper left cell of the slab on a cell -/
def ulI (g : Gd) (k : Nat) : Int32 := match gSl g k with
  | some c => nI (c % 16)
  | none => -9
theorem wx_slabOn {B : Nat} {p : Pl} {gh : Gh} {M : Mem} {Q : Option Value → Mem → Prop} (hg : WfG B p gh.1) (h : RCg 9 p gh M) {k : Nat} (hk : k < 16) (hq : Q (some (.int (ulI gh.1 k))) M) : WX mi_G_slabOn 4 Q 0 [some (.ref 9), some (.int (nI k)), none] [] M := by
  refine sg_G_slabOn_9_0 M _ ?_
  have loop : ∀ u, u ≤ 16 → (∀ v, v < u → jnA 0 gh.1 v k = false) → WX mi_G_slabOn 4 Q 2 [some (.ref 9), some (.int (nI k)), some (.int (nI u))] [] M := by
    refine downN 16 (fun hn => ?_) (fun u hu ih hn => ?_)
    · refine sg_G_slabOn_9_2 M _ _ (fun _ => ?_) (fun c => absurd ge16 c) (fun c => absurd ge16 c) (fun c => absurd ge16 c) (fun c => absurd ge16 c)
      have e : gSl gh.1 k = none := by
        cases hs : gSl gh.1 k with
        | none => rfl
        | some c =>
          have h1 := cov_sl hg k
          rw [hs] at h1
          unfold jnT at h1
          obtain ⟨v, hv, hv2⟩ := List.any_eq_true.mp h1
          rw [hn v (List.mem_range.mp hv)] at hv2
          cases hv2
      unfold ulI at hq
      rw [e] at hq
      exact hq
    · have e : M.1 11 (nI u).toNatClampNeg = eSz (szAt gh.1 u) := by rw [nI_clamp (by omega)]; exact h.2.1 u hu
      have e2 : z_C_holds (z_G_cellsOf_9 M (nI u)) (nI k) = bI (jnA 0 gh.1 u k) := by rw [cellsOf_z hg h hu, holds_sI hk]
      refine sg_G_slabOn_9_2 M _ _ (fun c => absurd c (lt16 hu)) (fun _ => vp_in_nI hu (by decide)) (fun _ c _ => by rw [e] at c ⊢; exact eSz_in hg u c) (fun _ c => ?_) (fun _ c => ?_)
      · rw [e2, bI_0] at c
        rw [nI_1]
        exact ih (fun v hv => by
          by_cases hvu : v = u
          · rw [hvu]; exact c
          · exact hn v (by omega))
      · rw [e2, bI_0] at c
        have c' : jnA 0 gh.1 u k = true := by simpa using c
        unfold jnA at c'
        cases hs : szAt gh.1 u with
        | none => rw [hs] at c'; cases c'
        | some z =>
          rw [hs] at c'
          have h3 := ((szAt_some hg hs).2.2.2.2 k c').2.2
          unfold ulI at hq
          rw [h3] at hq
          dsimp only at hq
          rw [show (16 * z + u) % 16 = u by omega] at hq
          exact hq
  exact loop 0 (by decide) (fun v hv => absurd hv (Nat.not_lt_zero v))
