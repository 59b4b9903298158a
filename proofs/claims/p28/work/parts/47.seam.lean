/-! ===== seams: the class's two sets ===== -/
def upr (g : Gd) (k : Nat) : Bool := decide (k % 4 ≠ 3) && prt g k (k + 1)
def lev (g : Gd) (k : Nat) : Bool := decide (k < 12) && prt g k (k + 4)
theorem sm_prt (g : Gd) (a b : Nat) : ((gSl g a).isSome && (gSl g b).isSome && !smS g a b) = prt g a b := by
  unfold smS prt
  cases e0 : gSl g a with
  | none => simp
  | some c => cases e1 : gSl g b with
    | none => simp
    | some d =>
      have : decide (some d = some c) = decide (some c = some d) := decide_eq_decide.mpr eq_comm
      simp [eq_comm]
theorem seam_u {B : Nat} {p : Pl} {g : Gd} (hg : WfG B p g) : ((sI (fun k => (gSl g k).isSome) &&& shr (sI (fun k => (gSl g k).isSome)) 1) &&& 30583) &&& (sI (jnT 2 g 16) ^^^ (-1)) = sI (upr g) := by
  have s1 : ∀ f : Nat → Bool, shr (sI f) 1 = sI (fun k => decide (k + 1 < 16) && f (k + 1)) := fun f => sI_shr (n := 1) (by decide)
  rw [s1, sI_and, c_30583, sI_and, sI_diff]
  refine sI_ext fun k hk => ?_
  unfold upr
  rw [jn_2 hg hk, ← sm_prt]
  by_cases h3 : k % 4 ≠ 3
  · rw [decide_eq_true h3, decide_eq_true (show k + 1 < 16 by omega)]
    simp
  · rw [decide_eq_false h3]
    simp
theorem seam_l {B : Nat} {p : Pl} {g : Gd} (hg : WfG B p g) : ((sI (fun k => (gSl g k).isSome) &&& shr (sI (fun k => (gSl g k).isSome)) 4) &&& 4095) &&& (sI (jnT 3 g 16) ^^^ (-1)) = sI (lev g) := by
  have s4 : ∀ f : Nat → Bool, shr (sI f) 4 = sI (fun k => decide (k + 4 < 16) && f (k + 4)) := fun f => sI_shr (n := 4) (by decide)
  rw [s4, sI_and, c_4095, sI_and, sI_diff]
  refine sI_ext fun k hk => ?_
  unfold lev
  rw [jn_3 hg hk, ← sm_prt]
  by_cases h3 : k < 12
  · rw [decide_eq_true h3, decide_eq_true (show k + 4 < 16 by omega)]
    simp
  · rw [decide_eq_false h3]
    simp
