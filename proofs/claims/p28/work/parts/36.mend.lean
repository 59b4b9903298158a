theorem pp_cnt (s : Nat) : ∀ i, pp s i = cntB s.testBit i
  | 0 => rfl
  | i + 1 => by
    show pp s i + (if s.testBit i = true then 1 else 0) = cntB s.testBit i + t1 s.testBit i
    rw [pp_cnt s i]
    rfl
theorem nI_dst {a v : Nat} (ha : a ≤ 9) (hv : v ≤ 9) : (nI a ≤ nI v → nI v - nI a = nI (dst a v)) ∧ (¬ nI a ≤ nI v → nI a - nI v = nI (dst a v)) := by
  constructor
  · intro h
    have := (nI_le_iff (by omega) (by omega)).mp h
    rw [nI_subn this (by omega)]
    unfold dst
    rw [if_pos this]
  · intro h
    have : ¬ a ≤ v := fun q => h ((nI_le_iff (by omega) (by omega)).mpr q)
    rw [nI_subn (by omega) (by omega)]
    unfold dst
    rw [if_neg this]
/-- what mend answers -/
def meA (s : Md) (x : Int32) : Int32 := if eF0 s = -9 then -9 else if x = 0 then eF0 s else if x = 1 then eF1 s else nI s.2
theorem eF12 (s : Md) (h : ¬ eF0 s = -9) : eF2 s = eF1 s := by
  unfold eF2 eF1
  cases ho : s.1 with
  | none => unfold eF0 at h; rw [ho] at h; exact absurd rfl h
  | some f => rfl
