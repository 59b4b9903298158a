/-! ===== pairs of slabs alike that touch ===== -/
theorem sumA_add (f g : Nat → Nat) : ∀ n, sumA (fun j => f j + g j) n = sumA f n + sumA g n
  | 0 => rfl
  | n + 1 => by
    show sumA (fun j => f j + g j) n + (f n + g n) = sumA f n + f n + (sumA g n + g n)
    rw [sumA_add f g n]
    omega
theorem sumA_t1 (f : Nat → Bool) : ∀ n, sumA (fun j => t1 f j) n = cntB f n
  | 0 => rfl
  | n + 1 => by
    show sumA (fun j => t1 f j) n + t1 f n = cntB f n + t1 f n
    rw [sumA_t1 f n]
theorem sumA_congr {f g : Nat → Nat} : ∀ n, (∀ j, j < n → f j = g j) → sumA f n = sumA g n
  | 0, _ => rfl
  | n + 1, h => by
    show sumA f n + f n = sumA g n + g n
    rw [sumA_congr n (fun j hj => h j (by omega)), h n (by omega)]
theorem sumA_0 : ∀ n, sumA (fun _ => 0) n = 0
  | 0 => rfl
  | n + 1 => sumA_0 n
theorem sum_swap (F : Nat → Nat → Bool) (n : Nat) : ∀ m, sumA (fun i => cntB (F i) n) m = sumA (fun j => cntB (fun i => F i j) m) n
  | 0 => (sumA_0 n).symm
  | m + 1 => by
    show sumA (fun i => cntB (F i) n) m + cntB (F m) n = sumA (fun j => cntB (fun i => F i j) m + t1 (fun i => F i j) m) n
    rw [sum_swap F n m, sumA_add, ← sumA_t1 (F m) n]
    rfl
theorem cntB_cut {g : Nat → Bool} {a : Nat} : ∀ n, cntB (fun b => decide (b < a) && g b) n = cntB g (min n a)
  | 0 => by rw [Nat.zero_min]; rfl
  | n + 1 => by
    show cntB (fun b => decide (b < a) && g b) n + t1 (fun b => decide (b < a) && g b) n = _
    rw [cntB_cut n]
    by_cases h : n < a
    · rw [Nat.min_eq_left (by omega), Nat.min_eq_left (by omega)]
      show cntB g n + _ = cntB g n + t1 g n
      rw [t1_congr (g := fun b => decide (b < a) && g b) (g' := g) (k := n) (k' := n) (by rw [decide_eq_true h, Bool.true_and])]
    · rw [Nat.min_eq_right (by omega), Nat.min_eq_right (by omega)]
      have : t1 (fun b => decide (b < a) && g b) n = 0 := by unfold t1; exact if_neg (by show ¬ (decide (n < a) && g n) = true; rw [decide_eq_false h]; simp)
      rw [this]
      rfl
/-- two slabs of one size that touch: by their upper left cells -/
def alk (g : Gd) (i j : Nat) : Bool := decide (szAt g j = szAt g i) && (List.range 16).any (fun k => jnA 0 g j k && bes (jnA 0 g i) k)
def alN (g : Gd) : Nat := sumA (fun i => cntB (fun j => decide (i < j) && alk g i j) 16) 16
theorem alN_M (g : Gd) : alN g = sumA (fun a => cntB (fun b => alk g b a) a) 16 := by
  unfold alN
  rw [sum_swap (fun i j => decide (i < j) && alk g i j) 16 16]
  refine sumA_congr 16 (fun a ha => ?_)
  rw [cntB_cut (g := fun b => alk g b a) (a := a) 16, Nat.min_eq_right (by omega)]
theorem eSz_eq {B : Nat} {p : Pl} {g : Gd} (hg : WfG B p g) (i j : Nat) : eSz (szAt g j) = eSz (szAt g i) ↔ szAt g j = szAt g i := by
  constructor
  · intro h
    cases e1 : szAt g j with
    | none => cases e2 : szAt g i with
      | none => rfl
      | some y =>
        rw [e1, e2] at h
        exact absurd h.symm (nI_nm9 (by have := (szAt_some hg e2).2.1; omega))
    | some z => cases e2 : szAt g i with
      | none =>
        rw [e1, e2] at h
        exact absurd h (nI_nm9 (by have := (szAt_some hg e1).2.1; omega))
      | some y =>
        rw [e1, e2] at h
        have h1 := (szAt_some hg e1).2.1
        have h2 := (szAt_some hg e2).2.1
        rw [(nI_eq (a := z) (b := y) (by omega) (by omega)).mp h]
  · intro h; rw [h]
theorem wx_alikePairs {B : Nat} {p : Pl} {gh : Gh} {M : Mem} {Q : Option Value → Mem → Prop} (hg : WfG B p gh.1) (h : RCg 9 p gh M) (hQ : Q (some (.int (nI (alN gh.1)))) M) : WX mi_G_alikePairs 4 Q 0 [some (.ref 9), none, none, none, none] [] M := by
  refine sg_G_alikePairs_9_0 M ?_
  have e11 : ∀ u, u < 16 → M.1 11 (nI u).toNatClampNeg = eSz (szAt gh.1 u) := fun u hu => by rw [nI_clamp (by omega)]; exact h.2.1 u hu
  have outer : ∀ i, i ≤ 16 → WX mi_G_alikePairs 4 Q 4 [some (.ref 9), some (.int (nI (sumA (fun i => cntB (fun j => decide (i < j) && alk gh.1 i j) 16) i))), some (.int (nI i)), none, none] [] M := by
    refine downN 16 ?_ (fun i hi ih => ?_)
    · exact sg_G_alikePairs_9_4 M _ _ (fun _ => hQ) (fun c => absurd ge16 c) (fun c => absurd ge16 c) (fun c => absurd ge16 c)
    · refine sg_G_alikePairs_9_4 M _ _ (fun c => absurd c (lt16 hi)) (fun _ => vp_in_nI hi (by decide)) (fun _ c _ => by rw [e11 i hi] at c ⊢; exact eSz_in hg i c) (fun _ => ?_)
      rw [cellsOf_z hg h hi, beside_sI, nI_1]
      have inner : ∀ j, j ≤ 16 → i + 1 ≤ j → WX mi_G_alikePairs 4 Q 24 [some (.ref 9), some (.int (nI (sumA (fun i => cntB (fun j => decide (i < j) && alk gh.1 i j) 16) i + cntB (fun j => decide (i < j) && alk gh.1 i j) j))), some (.int (nI i)), some (.int (sI (bes (jnA 0 gh.1 i)))), some (.int (nI j))] [] M := by
        refine downN 16 (fun _ => ?_) (fun j hj ih2 hij => ?_)
        · refine sg_G_alikePairs_9_24 M _ _ _ _ (fun _ => ?_) (fun c => absurd ge16 c) (fun c => absurd ge16 c) (fun c => absurd ge16 c) (fun c => absurd ge16 c) (fun c => absurd ge16 c) (fun c => absurd ge16 c) (fun c => absurd ge16 c)
          rw [nI_1]
          exact ih
        · have es : cntB (fun j => decide (i < j) && alk gh.1 i j) (j + 1) = cntB (fun j => decide (i < j) && alk gh.1 i j) j + (if alk gh.1 i j = true then 1 else 0) := by
            show _ + t1 (fun j => decide (i < j) && alk gh.1 i j) j = _
            unfold t1
            show _ + (if (decide (i < j) && alk gh.1 i j) = true then 1 else 0) = _
            rw [show decide (i < j) = true from decide_eq_true (by omega), Bool.true_and]
          have ez : (sI (jnA 0 gh.1 j) &&& sI (bes (jnA 0 gh.1 i)) = 0) ↔ (List.range 16).any (fun k => jnA 0 gh.1 j k && bes (jnA 0 gh.1 i) k) = false := by
            rw [sI_and, sI_zero, List.any_eq_false]
            constructor
            · intro hz k hk
              have := hz k (List.mem_range.mp hk)
              rw [this]; decide
            · intro hz k hk
              have := hz k (List.mem_range.mpr hk)
              simpa using this
          have no : alk gh.1 i j = false → WX mi_G_alikePairs 4 Q 24 [some (.ref 9), some (.int (nI (sumA (fun i => cntB (fun j => decide (i < j) && alk gh.1 i j) 16) i + cntB (fun j => decide (i < j) && alk gh.1 i j) j))), some (.int (nI i)), some (.int (sI (bes (jnA 0 gh.1 i)))), some (.int (nI j + 1))] [] M := by
            intro hn
            have := ih2 (by omega)
            rw [es, if_neg (by rw [hn]; decide)] at this
            rw [nI_1]
            exact this
          refine sg_G_alikePairs_9_24 M _ _ _ _ (fun c => absurd c (lt16 hj)) (fun _ => vp_in_nI hj (by decide)) (fun _ => vp_in_nI hi (by decide)) (fun _ c => ?_) (fun _ _ => vp_in_nI hj (by decide)) (fun _ _ c _ => by rw [e11 j hj] at c ⊢; exact eSz_in hg j c) (fun _ c c2 => ?_) (fun _ c c2 => ?_)
          · rw [e11 i hi, e11 j hj, eSz_eq hg] at c
            exact no (by unfold alk; rw [decide_eq_false c]; rfl)
          · rw [cellsOf_z hg h hj, ez] at c2
            exact no (by unfold alk; rw [c2]; simp)
          · rw [e11 i hi, e11 j hj, eSz_eq hg] at c
            rw [cellsOf_z hg h hj, ez] at c2
            have yes : alk gh.1 i j = true := by
              unfold alk
              rw [decide_eq_true c, Bool.true_and]
              simpa using c2
            have := ih2 (by omega)
            rw [es, if_pos yes, ← Nat.add_assoc] at this
            rw [nI_1, nI_1]
            exact this
      have h0 := inner (i + 1) (by omega) (Nat.le_refl _)
      have e0 : cntB (fun j => decide (i < j) && alk gh.1 i j) (i + 1) = 0 := by
        have : ∀ n, n ≤ i + 1 → cntB (fun j => decide (i < j) && alk gh.1 i j) n = 0 := by
          intro n
          induction n with
          | zero => intro _; rfl
          | succ n ihn =>
            intro hn
            show cntB _ n + t1 (fun j => decide (i < j) && alk gh.1 i j) n = 0
            rw [ihn (by omega)]
            unfold t1
            show 0 + (if (decide (i < n) && alk gh.1 i n) = true then 1 else 0) = 0
            rw [show decide (i < n) = false from decide_eq_false (by omega)]
            rfl
        exact this _ (Nat.le_refl _)
      rw [e0, Nat.add_zero] at h0
      exact h0
  exact outer 0 (by decide)
