/-! ===== cell, and what is told of now but water and slabs side by side ===== -/
theorem div16 : ∀ c, c < 64 → nI c / 16 = nI (c / 16) := by decide +kernel
theorem rem16 : ∀ c, c < 64 → rem (nI c) 16 = nI (c % 16) := by decide +kernel
theorem nI_nm9 {n : Nat} (h : n < 2 ^ 31) : ¬ nI n = -9 := by
  intro q
  have h1 := congrArg Int32.toInt q
  rw [nI_toInt h, show (-9 : Int32).toInt = -9 from rfl] at h1
  omega
/-- what cell() tells of a cell that is there -/
def celA (p : Pl) (g : Gd) (k : Nat) (w : Int32) : Int32 :=
  if w = 0 then nI (gHt g k) else if w = 1 then (if pL p k = true then 1 else if pD p k = true then 2 else 0) else if w = 2 then (match gSl g k with | some c => nI (c / 16) | none => -9)
  else if w = 3 then ulI g k else if w = 4 then bI (gTd g k) else -1
theorem sortOf_C {p : Pl} {M : Mem} (hp : WfP p) (h : RCp p M) {k : Nat} (hk : k < 16) : z_L_sortOf_6 M (nI k) = (if pL p k = true then 1 else if pD p k = true then 2 else 0) := by
  unfold z_L_sortOf_6
  rw [h.2.2.2.1, h.2.2.2.2, holds_sI hk, holds_sI hk]
  cases pL p k <;> cases pD p k <;> decide
theorem isTodays_C {B : Nat} {p : Pl} {gh : Gh} {M : Mem} (hg : WfG B p gh.1) (h : RCg 9 p gh M) {u : Nat} (hu : u < 16) : z_G_isTodays_9 M (nI u) = bI ((szAt gh.1 u).isSome && gTd gh.1 u) := by
  unfold z_G_isTodays_9
  rw [if_neg (nI_nm9 (by omega)), h.2.2.2.1, holds_sI hu]
  cases ((szAt gh.1 u).isSome && gTd gh.1 u) <;> decide
theorem td_none {B : Nat} {p : Pl} {g : Gd} (hg : WfG B p g) {k : Nat} (h : gSl g k = none) : gTd g k = false := by
  cases ht : gTd g k with
  | false => rfl
  | true =>
    obtain ⟨c, hc⟩ := hg.2.2.1 k ht
    rw [h] at hc
    cases hc
/-! the model's sets -/
theorem or0 (x : Int32) : x ||| 0 = x := by
  apply b_ext
  intro i hi
  rw [b_or, b_0, Bool.or_false]
/-- a set's first n numbers -/
def fst (f : Nat → Bool) (n k : Nat) : Bool := decide (k < n) && f k
theorem fst_t (f : Nat → Bool) {n : Nat} (h : f n = true) (hn : n < 16) : sI (fst f n) ||| shl 1 (nI n) = sI (fst f (n + 1)) := by
  rw [sI_one hn, sI_or]
  refine sI_ext fun k _ => ?_
  unfold fst
  by_cases hk : k = n
  · subst hk; simp [h]
  · rw [Bool.eq_iff_iff]
    simp only [Bool.or_eq_true, Bool.and_eq_true, decide_eq_true_eq]
    constructor
    · rintro (q | q)
      · exact ⟨by omega, q.2⟩
      · exact absurd q hk
    · rintro ⟨q1, q2⟩
      exact Or.inl ⟨by omega, q2⟩
theorem fst_f (f : Nat → Bool) {n : Nat} (h : f n = false) : sI (fst f n) = sI (fst f (n + 1)) := by
  refine sI_ext fun k _ => ?_
  unfold fst
  by_cases hk : k = n
  · subst hk; simp [h]
  · have : decide (k < n) = decide (k < n + 1) := decide_eq_decide.mpr (by omega)
    rw [this]
theorem fst_0 (f : Nat → Bool) : sI (fst f 0) = 0 := sI_zero.mpr fun k _ => by simp [fst]
theorem fst_16 (f : Nat → Bool) : sI (fst f 16) = sI f := sI_ext fun k hk => by simp [fst, hk]
theorem eSl_m9 {o : Option Nat} (h : ∀ c, o = some c → c < 64) : eSl o = -9 ↔ o = none := by
  cases o with
  | none => exact ⟨fun _ => rfl, fun _ => rfl⟩
  | some c => exact ⟨fun q => absurd q (nI_nm9 (by have := h c rfl; omega)), fun q => by cases q⟩
