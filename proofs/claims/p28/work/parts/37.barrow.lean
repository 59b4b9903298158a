/-! ===== todays cells, firm cells; the class's way of reaching ===== -/
theorem td_jn {B : Nat} {p : Pl} {g : Gd} (hg : WfG B p g) (k : Nat) : (List.range 16).any (fun u => ((szAt g u).isSome && gTd g u) && jnA 0 g u k) = gTd g k := by
  rw [Bool.eq_iff_iff, List.any_eq_true]
  constructor
  · rintro ⟨u, -, hu⟩
    simp only [Bool.and_eq_true] at hu
    obtain ⟨⟨h1, h2⟩, h3⟩ := hu
    obtain ⟨z, hz⟩ := Option.isSome_iff_exists.mp h1
    unfold jnA at h3
    rw [hz] at h3
    have := ((szAt_some hg hz).2.2.2.2 k h3).2.2
    rw [hg.2.2.2.1 k _ this, show (16 * z + u) % 16 = u by have := (szAt_some hg hz).1; omega]
    exact h2
  · intro ht
    obtain ⟨c, hc⟩ := hg.2.2.1 k ht
    obtain ⟨h1, h2, h3, h4⟩ := szAt_of hg hc
    refine ⟨c % 16, List.mem_range.mpr (by omega), ?_⟩
    rw [h1]
    have e1 : gTd g (c % 16) = true := by rw [← hg.2.2.2.1 k c hc]; exact ht
    have e2 : jnA 0 g (c % 16) k = true := by
      unfold jnA
      rw [h1]
      show inT 0 (16 * (c / 16) + c % 16) k = true
      rw [show 16 * (c / 16) + c % 16 = c by omega]
      exact h2
    rw [e1, e2]
    rfl
theorem wx_todaysCells {B : Nat} {p : Pl} {gh : Gh} {M : Mem} {Q : Option Value → Mem → Prop} (hg : WfG B p gh.1) (h : RCg 9 p gh M) (hq : Q (some (.int (sI (gTd gh.1)))) M) : WX mi_G_todaysCells 4 Q 0 [some (.ref 9), none, none] [] M := by
  refine sg_G_todaysCells_9_0 M ?_
  have loop : ∀ u, u ≤ 16 → WX mi_G_todaysCells 4 Q 4 [some (.ref 9), some (.int (sI (fun k => (List.range u).any (fun u => ((szAt gh.1 u).isSome && gTd gh.1 u) && jnA 0 gh.1 u k)))), some (.int (nI u))] [] M := by
    refine downN 16 ?_ (fun u hu ih => ?_)
    · refine sg_G_todaysCells_9_4 M _ _ (fun _ => ?_) (fun c => absurd ge16 c) (fun c => absurd ge16 c) (fun c => absurd ge16 c) (fun c => absurd ge16 c)
      rw [sI_ext (fun k _ => td_jn hg k)]
      exact hq
    · have e := isTodays_C hg h hu
      have es : ∀ k, (List.range (u + 1)).any (fun u => ((szAt gh.1 u).isSome && gTd gh.1 u) && jnA 0 gh.1 u k) = ((List.range u).any (fun u => ((szAt gh.1 u).isSome && gTd gh.1 u) && jnA 0 gh.1 u k) || (((szAt gh.1 u).isSome && gTd gh.1 u) && jnA 0 gh.1 u k)) := fun k => by
        rw [List.range_succ, List.any_append]
        simp
      refine sg_G_todaysCells_9_4 M _ _ (fun c => absurd c (lt16 hu)) (fun _ c => ?_) (fun _ _ => vp_in_nI hu (by decide)) (fun _ _ c _ => ?_) (fun _ c => ?_)
      · rw [e, bI_0] at c
        rw [nI_1, sI_ext (f := fun k => (List.range u).any (fun u => ((szAt gh.1 u).isSome && gTd gh.1 u) && jnA 0 gh.1 u k)) (fun k _ => by rw [es k, c]; simp : ∀ k, k < 16 → _ = (List.range (u + 1)).any (fun u => ((szAt gh.1 u).isSome && gTd gh.1 u) && jnA 0 gh.1 u k))]
        exact ih
      · have e11 : M.1 11 (nI u).toNatClampNeg = eSz (szAt gh.1 u) := by rw [nI_clamp (by omega)]; exact h.2.1 u hu
        rw [e11] at c ⊢
        exact eSz_in hg u c
      · rw [e, bI_0] at c
        have c' : ((szAt gh.1 u).isSome && gTd gh.1 u) = true := by simpa using c
        rw [cellsOf_z hg h hu, sI_or, nI_1, sI_ext (f := fun k => (List.range u).any (fun u => ((szAt gh.1 u).isSome && gTd gh.1 u) && jnA 0 gh.1 u k) || jnA 0 gh.1 u k) (fun k _ => by rw [es k, c', Bool.true_and] : ∀ k, k < 16 → _ = (List.range (u + 1)).any (fun u => ((szAt gh.1 u).isSome && gTd gh.1 u) && jnA 0 gh.1 u k))]
        exact ih
  have h0 := loop 0 (by decide)
  rw [show sI (fun k => (List.range 0).any (fun u => ((szAt gh.1 u).isSome && gTd gh.1 u) && jnA 0 gh.1 u k)) = 0 from sI_zero.mpr (fun _ _ => rfl)] at h0
  exact h0
/-- dry, and of no slab of today -/
def firm (p : Pl) (td : Nat → Bool) (k : Nat) : Bool := dry p k && !td k
/-- reached in so many steps -/
def rch (p : Pl) (td : Nat → Bool) (dr to : Nat) : Nat → Nat → Bool
  | 0, j => decide (j = dr)
  | n + 1, j => rch p td dr to n j || (bes (rch p td dr to n) j && (firm p td j || decide (j = to)))
def fnd (p : Pl) (td : Nat → Bool) (dr to : Nat) : Nat → Nat → Option Nat
  | 0, _ => none
  | f + 1, n => if rch p td dr to n to = true then some n else fnd p td dr to f (n + 1)
theorem fnd_some {p : Pl} {td : Nat → Bool} {dr to : Nat} : ∀ f n m, fnd p td dr to f n = some m → rch p td dr to m to = true ∧ n ≤ m ∧ ∀ l, n ≤ l → l < m → rch p td dr to l to = false
  | 0, _, _, h => by cases h
  | f + 1, n, m, h => by
    have h : (if rch p td dr to n to = true then some n else fnd p td dr to f (n + 1)) = some m := h
    by_cases e : rch p td dr to n to = true
    · rw [if_pos e] at h; cases h; exact ⟨e, Nat.le_refl _, fun l h1 h2 => by omega⟩
    · rw [if_neg e] at h
      obtain ⟨a, b, c⟩ := fnd_some f (n + 1) m h
      refine ⟨a, by omega, fun l h1 h2 => ?_⟩
      by_cases el : l = n
      · rw [el]; simpa using e
      · exact c l (by omega) h2
theorem fnd_none {p : Pl} {td : Nat → Bool} {dr to : Nat} : ∀ f n, fnd p td dr to f n = none → ∀ l, n ≤ l → l < n + f → rch p td dr to l to = false
  | 0, _, _, l, h1, h2 => by omega
  | f + 1, n, h, l, h1, h2 => by
    have h : (if rch p td dr to n to = true then some n else fnd p td dr to f (n + 1)) = none := h
    by_cases e : rch p td dr to n to = true
    · rw [if_pos e] at h; cases h
    · rw [if_neg e] at h
      by_cases el : l = n
      · rw [el]; simpa using e
      · exact fnd_none f (n + 1) h l (by omega) (by omega)
theorem rch_mono {p : Pl} {td : Nat → Bool} {dr to : Nat} {n : Nat} : ∀ d j, rch p td dr to n j = true → rch p td dr to (n + d) j = true
  | 0, _, h => h
  | d + 1, j, h => by
    show (rch p td dr to (n + d) j || _) = true
    rw [rch_mono d j h]
    rfl
/-- once nothing is new nothing will be -/
theorem rch_fix {p : Pl} {td : Nat → Bool} {dr to n : Nat} (h : ∀ j, j < 16 → rch p td dr to (n + 1) j = rch p td dr to n j) : ∀ d j, j < 16 → rch p td dr to (n + d) j = rch p td dr to n j
  | 0, _, _ => rfl
  | d + 1, j, hj => by
    have ih := rch_fix h d
    have hb : bes (rch p td dr to (n + d)) j = bes (rch p td dr to n) j := by
      rw [Bool.eq_iff_iff, bes_iff, bes_iff]
      constructor
      · rintro ⟨w, b, h1, h2, h3⟩; exact ⟨w, b, h1, h2, by rw [← ih b (nb_lt hj h2)]; exact h3⟩
      · rintro ⟨w, b, h1, h2, h3⟩; exact ⟨w, b, h1, h2, by rw [ih b (nb_lt hj h2)]; exact h3⟩
    show (rch p td dr to (n + d) j || (bes (rch p td dr to (n + d)) j && (firm p td j || decide (j = to)))) = _
    rw [hb, ih j hj]
    exact h j hj
theorem cntB_mono {g g' : Nat → Bool} : ∀ n, (∀ k, k < n → g k = true → g' k = true) → cntB g n ≤ cntB g' n
  | 0, _ => Nat.le_refl 0
  | n + 1, h => by
    have ih := cntB_mono n (fun k hk => h k (by omega))
    show cntB g n + t1 g n ≤ cntB g' n + t1 g' n
    have : t1 g n ≤ t1 g' n := by
      unfold t1
      cases e : g n with
      | false => rw [if_neg (by decide)]; exact Nat.zero_le _
      | true => rw [h n (by omega) e]; exact Nat.le_refl _
    omega
theorem cntB_lt {g g' : Nat → Bool} {j : Nat} (hg : g j = false) (hg' : g' j = true) : ∀ n, j < n → (∀ k, k < n → g k = true → g' k = true) → cntB g n < cntB g' n
  | 0, hj, _ => absurd hj (Nat.not_lt_zero _)
  | n + 1, hj, h => by
    show cntB g n + t1 g n < cntB g' n + t1 g' n
    by_cases e : j = n
    · have ih := cntB_mono n (fun k hk => h k (by omega))
      have a1 : t1 g n = 0 := by unfold t1; rw [← e, hg]; rfl
      have a2 : t1 g' n = 1 := by unfold t1; rw [← e, hg']; rfl
      omega
    · have ih := cntB_lt hg hg' n (by omega) (fun k hk => h k (by omega))
      have : t1 g n ≤ t1 g' n := by
        unfold t1
        cases e : g n with
        | false => rw [if_neg (by decide)]; exact Nat.zero_le _
        | true => rw [h n (by omega) e]; exact Nat.le_refl _
      omega
theorem cntB_all {g : Nat → Bool} {j : Nat} (hg : g j = false) : ∀ n, j < n → cntB g n < n
  | 0, hj => absurd hj (Nat.not_lt_zero _)
  | n + 1, hj => by
    show cntB g n + t1 g n < n + 1
    by_cases e : j = n
    · have := cntB_le g n
      have a1 : t1 g n = 0 := by unfold t1; rw [← e, hg]; rfl
      omega
    · have := cntB_all hg n (by omega)
      have : t1 g n ≤ 1 := by unfold t1; split <;> omega
      omega
/-- either so many are reached, or nothing was new before -/
theorem rch_cnt {p : Pl} {td : Nat → Bool} {dr to : Nat} (hd : dr < 16) : ∀ n, n + 1 ≤ cntB (rch p td dr to n) 16 ∨ ∃ m, m < n ∧ ∀ j, j < 16 → rch p td dr to (m + 1) j = rch p td dr to m j
  | 0 => Or.inl (by
    have := cntB_lt (g := fun _ => false) (g' := rch p td dr to 0) (j := dr) rfl (by show decide (dr = dr) = true; simp) 16 hd (fun k _ h => by cases h)
    omega)
  | n + 1 => by
    rcases rch_cnt (p := p) (td := td) (to := to) hd n with h | ⟨m, hm, h⟩
    · by_cases e : ∀ j, j < 16 → rch p td dr to (n + 1) j = rch p td dr to n j
      · exact Or.inr ⟨n, by omega, e⟩
      · refine Or.inl ?_
        obtain ⟨j, hj, hne⟩ : ∃ j, j < 16 ∧ rch p td dr to (n + 1) j ≠ rch p td dr to n j := by
          refine Decidable.byContradiction (fun q => e (fun j hj => Decidable.byContradiction (fun q2 => q ⟨j, hj, q2⟩)))
        have f0 : rch p td dr to n j = false := by
          cases q : rch p td dr to n j with
          | false => rfl
          | true => exact absurd ((rch_mono 1 j q).trans q.symm) hne
        have f1 : rch p td dr to (n + 1) j = true := by
          cases q : rch p td dr to (n + 1) j with
          | true => rfl
          | false => exact absurd (q.trans f0.symm) hne
        have := cntB_lt f0 f1 16 hj (fun k _ hk => rch_mono 1 k hk)
        omega
    · exact Or.inr ⟨m, by omega, h⟩
/-- what is reached at all is reached in 15 steps -/
theorem rch_15 {p : Pl} {td : Nat → Bool} {dr to : Nat} (hd : dr < 16) {j n : Nat} (hj : j < 16) (h : rch p td dr to n j = true) : rch p td dr to 15 j = true := by
  cases e : rch p td dr to 15 j with
  | true => rfl
  | false =>
    rcases rch_cnt (p := p) (td := td) (to := to) hd 15 with q | ⟨m, hm, q⟩
    · have := cntB_all e 16 hj
      omega
    · have e15 := rch_fix q (15 - m) j hj
      rw [show m + (15 - m) = 15 by omega, e] at e15
      have en := rch_fix q n j hj
      have hmn := rch_mono (n := n) m j h
      rw [Nat.add_comm n m, en, ← e15] at hmn
      cases hmn
/-- what barrow answers -/
def baA (p : Pl) (td : Nat → Bool) (dr to : Nat) : Int32 := if firm p td dr = true then eSl (fnd p td dr to 16 0) else -9
theorem wx_reach {p : Pl} {td : Nat → Bool} {dr to : Nat} {x1 x2 : Int32} {M : Mem} {Q : Option Value → Mem → Prop} (ht : to < 16) (hQ : Q (some (.int (eSl (fnd p td dr to 16 0)))) M) : WX mi_C_barrow 5 Q 76 [some (.ref 0), some (.int x1), some (.int x2), some (.int (sI (fun j => decide (j = to)))), some (.int (sI (rch p td dr to 0))), some (.int (sI (firm p td))), some (.int 0)] [] M := by
  have loop : ∀ f n, f + n = 16 → fnd p td dr to f n = fnd p td dr to 16 0 → WX mi_C_barrow 5 Q 76 [some (.ref 0), some (.int x1), some (.int x2), some (.int (sI (fun j => decide (j = to)))), some (.int (sI (rch p td dr to n))), some (.int (sI (firm p td))), some (.int (nI n))] [] M := by
    intro f
    induction f with
    | zero =>
      intro n hn hf
      have g : (16 : Int32) ≤ nI n := by rw [show n = 16 by omega]; decide
      refine sg_C_barrow_0_76 M _ _ _ _ _ _ (fun _ => ?_) (fun c => absurd g c) (fun c => absurd g c)
      rw [← hf] at hQ
      exact hQ
    | succ f ih =>
      intro n hn hf
      have hf : (if rch p td dr to n to = true then some n else fnd p td dr to f (n + 1)) = fnd p td dr to 16 0 := hf
      have ez : (sI (rch p td dr to n) &&& sI (fun j => decide (j = to)) = 0) ↔ rch p td dr to n to = false := by
        rw [sI_and, sI_zero]
        constructor
        · intro h
          have := h to ht
          simpa using this
        · intro h k _
          by_cases e : k = to
          · rw [e, h]; rfl
          · rw [decide_eq_false e]; simp
      refine sg_C_barrow_0_76 M _ _ _ _ _ _ (fun c => absurd c (lt16 (by omega))) (fun _ c => ?_) (fun _ c => ?_)
      · rw [ez] at c
        rw [if_neg (by rw [c]; decide)] at hf
        rw [beside_sI, sI_or, sI_and, sI_or, nI_1]
        exact ih (n + 1) (by omega) hf
      · rw [ez] at c
        have c' : rch p td dr to n to = true := by simpa using c
        rw [if_pos c'] at hf
        rw [← hf] at hQ
        exact hQ
  exact loop 16 0 rfl rfl
