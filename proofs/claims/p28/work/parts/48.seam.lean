def upN (g : Gd) : Nat → Nat → Bool
  | 0 => upr g
  | n + 1 => fun k => upN g n k && (decide (k + 4 < 16) && upN g n (k + 4))
def lvN (g : Gd) : Nat → Nat → Bool
  | 0 => lev g
  | n + 1 => fun k => lvN g n k && ((decide (k + 1 < 16) && lvN g n (k + 1)) && decide (k % 4 ≠ 3))
def emp (g : Gd) (n : Nat) : Bool := !(List.range 16).any (fun k => upN g n k || lvN g n k)
/-- the longest seam: so often both sets shrink till they are empty -/
def smN (g : Gd) : Nat → Nat → Nat
  | 0, n => n
  | f + 1, n => if emp g n = true then n else smN g f (n + 1)
theorem wx_longestSeam {B : Nat} {p : Pl} {g : Gd} {M : Mem} {Q : Option Value → Mem → Prop} (hg : WfG B p g) (hQ : Q (some (.int (nI (smN g 4 0)))) M) : WX mi_C_longestSeam 1 Q 0 [some (.int (sI (fun k => (gSl g k).isSome))), some (.int (sI (jnT 2 g 16))), some (.int (sI (jnT 3 g 16))), none, none, none, none] [] M := by
  refine sg_C_longestSeam_0 M _ _ _ ?_
  rw [seam_u hg, seam_l hg]
  have loop : ∀ f n, f + n = 4 → smN g f n = smN g 4 0 → WX mi_C_longestSeam 1 Q 35 [some (.int (sI (fun k => (gSl g k).isSome))), some (.int (sI (jnT 2 g 16))), some (.int (sI (jnT 3 g 16))), some (.int (sI (upN g n))), some (.int (sI (lvN g n))), some (.int (nI n)), some (.int (nI n))] [] M := by
    intro f
    induction f with
    | zero =>
      intro n hn hs
      have g4 : (4 : Int32) ≤ nI n := by rw [show n = 4 by omega]; decide
      have hs : n = smN g 4 0 := hs
      rw [← hs] at hQ
      exact sg_C_longestSeam_35 M _ _ _ _ _ _ _ (fun _ => hQ) (fun _ _ => hQ) (fun c => absurd g4 c)
    | succ f ih =>
      intro n hn hs
      have hs : (if emp g n = true then n else smN g f (n + 1)) = smN g 4 0 := hs
      have ez : (sI (upN g n) ||| sI (lvN g n) = 0) ↔ emp g n = true := by
        rw [sI_or, sI_zero]
        unfold emp
        rw [Bool.not_eq_true', List.any_eq_false]
        constructor
        · intro h k hk
          rw [h k (List.mem_range.mp hk)]
          decide
        · intro h k hk
          have := h k (List.mem_range.mpr hk)
          cases q : (upN g n k || lvN g n k) with
          | false => rfl
          | true => exact absurd q this
      have s1 : ∀ f : Nat → Bool, shr (sI f) 1 = sI (fun k => decide (k + 1 < 16) && f (k + 1)) := fun f => sI_shr (n := 1) (by decide)
      have s4 : ∀ f : Nat → Bool, shr (sI f) 4 = sI (fun k => decide (k + 4 < 16) && f (k + 4)) := fun f => sI_shr (n := 4) (by decide)
      refine sg_C_longestSeam_35 M _ _ _ _ _ _ _ (fun c => absurd c (Int32.not_le.mpr (nI_lt (b := 4) (by omega) (by decide)))) (fun _ c => ?_) (fun _ c => ?_)
      · rw [ez] at c
        rw [if_pos c] at hs
        rw [← hs] at hQ
        exact hQ
      · rw [ez] at c
        rw [if_neg c] at hs
        rw [s4, sI_and, s1, c_30583, sI_and, sI_and, nI_1]
        exact ih (n + 1) (by omega) hs
  exact loop 4 0 rfl rfl
