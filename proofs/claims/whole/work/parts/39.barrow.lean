def sumA (a : Nat → Nat) : Nat → Nat
  | 0 => 0
  | n + 1 => sumA a n + a n
theorem sumA_upd {a : Nat → Nat} {k v : Nat} (hv : v < a k) : ∀ n, (k < n → sumA (updN a k v) n < sumA a n) ∧ (¬ k < n → sumA (updN a k v) n = sumA a n)
  | 0 => ⟨fun h => absurd h (Nat.not_lt_zero _), fun _ => rfl⟩
  | n + 1 => by
    obtain ⟨h1, h2⟩ := sumA_upd hv n
    by_cases e : n = k
    · subst e
      have e1 : updN a n v n = v := by unfold updN; rw [if_pos rfl]
      refine ⟨fun _ => ?_, fun q => by omega⟩
      show sumA (updN a n v) n + updN a n v n < sumA a n + a n
      rw [h2 (Nat.lt_irrefl _), e1]
      omega
    · have e1 : updN a k v n = a n := by unfold updN; rw [if_neg e]
      refine ⟨fun q => ?_, fun q => ?_⟩
      · show sumA (updN a k v) n + updN a k v n < sumA a n + a n
        rw [e1]
        have := h1 (by omega)
        omega
      · show sumA (updN a k v) n + updN a k v n = sumA a n + a n
        rw [e1, h2 (by omega)]
def AA (p : Pl) (td : Nat → Bool) (to k : Nat) : Prop := thr p k = true ∧ (firm p td k = true ∨ k = to)
def JJ (p : Pl) (td : Nat → Bool) (dr to : Nat) (a : Nat → Nat) : Prop := (∀ j, j < 16 → a j ≤ 1000 ∧ (a j < 1000 → firm p td dr = true ∧ rch p td dr to (a j) j = true)) ∧ (firm p td dr = true → a dr = 0)
theorem firm_thr {p : Pl} {td : Nat → Bool} {k : Nat} (h : firm p td k = true) : thr p k = true := by
  unfold firm at h
  simp only [Bool.and_eq_true] at h
  exact dry_thr h.1
theorem way_J {p : Pl} {td : Nat → Bool} {dr to k n : Nat} {a : Nat → Nat} (hk : k < 16) (hn : n < 4) (hA : AA p td to k) (hJ : JJ p td dr to a) : JJ p td dr to (wayS p td dr a k n) ∧ ((rlx p td dr a k n).isSome = true → sumA (wayS p td dr a k n) 16 < sumA a 16) ∧ ((rlx p td dr a k n).isSome = false → wayS p td dr a k n = a) := by
  unfold wayS
  cases hr : rlx p td dr a k n with
  | none => exact ⟨hJ, fun q => (by cases q), fun _ => rfl⟩
  | some v =>
    unfold rlx at hr
    cases ho : nbT p k n with
    | none => rw [ho] at hr; cases hr
    | some b =>
      rw [ho] at hr
      dsimp only at hr
      by_cases h1 : k = dr
      · rw [if_pos h1] at hr; cases hr
      · rw [if_neg h1] at hr
        by_cases h2 : firm p td b = true
        · rw [if_pos h2] at hr
          by_cases h3 : a k ≤ a b + 1
          · rw [if_pos h3] at hr; cases hr
          · rw [if_neg h3] at hr
            cases hr
            have hb16 := nbT_lt hk ho
            have ak := (hJ.1 k hk).1
            have hb := (hJ.1 b hb16).2 (by omega)
            refine ⟨⟨fun j hj => ?_, fun q => ?_⟩, fun _ => (sumA_upd (by omega) 16).1 hk, fun q => by cases q⟩
            · show (if j = k then a b + 1 else a j) ≤ 1000 ∧ ((if j = k then a b + 1 else a j) < 1000 → _ ∧ rch p td dr to (if j = k then a b + 1 else a j) j = true)
              by_cases e : j = k
              · rw [if_pos e]
                refine ⟨by omega, fun _ => ⟨hb.1, ?_⟩⟩
                subst e
                show (rch p td dr to (a b) j || (bes (rch p td dr to (a b)) j && (firm p td j || decide (j = to)))) = true
                have hbes : bes (rch p td dr to (a b)) j = true := bes_iff.mpr ⟨n, b, hn, (nbT_some ho).1, hb.2⟩
                have hf : (firm p td j || decide (j = to)) = true := by
                  rcases hA.2 with q | q
                  · rw [q]; rfl
                  · rw [decide_eq_true q]; simp
                rw [hbes, hf]
                simp
              · rw [if_neg e]; exact hJ.1 j hj
            · show (if dr = k then a b + 1 else a dr) = 0
              rw [if_neg (fun q => h1 q.symm)]
              exact hJ.2 q
        · rw [if_neg h2] at hr; cases hr
theorem fnd_lt {p : Pl} {td : Nat → Bool} {dr to : Nat} : ∀ f n m, fnd p td dr to f n = some m → m < n + f
  | 0, _, _, h => by cases h
  | f + 1, n, m, h => by
    have h : (if rch p td dr to n to = true then some n else fnd p td dr to f (n + 1)) = some m := h
    by_cases e : rch p td dr to n to = true
    · rw [if_pos e] at h; cases h; omega
    · rw [if_neg e] at h
      have := fnd_lt f (n + 1) m h
      omega
theorem rch_kind {p : Pl} {td : Nat → Bool} {dr to : Nat} : ∀ n j, rch p td dr to n j = true → j = dr ∨ firm p td j = true ∨ j = to
  | 0, j, h => by
    have h : decide (j = dr) = true := h
    exact Or.inl (by simpa using h)
  | n + 1, j, h => by
    have h : (rch p td dr to n j || (bes (rch p td dr to n) j && (firm p td j || decide (j = to)))) = true := h
    simp only [Bool.or_eq_true, Bool.and_eq_true, decide_eq_true_eq] at h
    rcases h with q | ⟨-, q⟩
    · exact rch_kind n j q
    · exact Or.inr q
/-- where nothing changes any more, far is the number of steps -/
theorem far_ok {p : Pl} {td : Nat → Bool} {dr to : Nat} {a : Nat → Nat} (hd : dr < 16) (ht : to < 16) (htt : thr p to = true) (hJ : JJ p td dr to a) (hS : ∀ k, k < 16 → AA p td to k → ∀ n, n < 4 → rlx p td dr a k n = none) : (if a to < 1000 then nI (a to) else -9) = baA p td dr to := by
  unfold baA
  by_cases hf : firm p td dr = true
  · rw [if_pos hf]
    cases e : fnd p td dr to 16 0 with
    | none =>
      have hn := fnd_none 16 0 e
      by_cases h : a to < 1000
      · have := rch_15 hd ht ((hJ.1 to ht).2 h).2
        rw [hn 15 (by decide) (by decide)] at this
        cases this
      · rw [if_neg h]; rfl
    | some m =>
      obtain ⟨h1, -, h3⟩ := fnd_some 16 0 m e
      have hm := fnd_lt 16 0 m e
      have key : ∀ n, n ≤ m → ∀ j, j < 16 → rch p td dr to n j = true → a j ≤ n := by
        intro n
        induction n with
        | zero =>
          intro _ j _ hj
          have hj : decide (j = dr) = true := hj
          have : j = dr := by simpa using hj
          rw [this, hJ.2 hf]
          exact Nat.le_refl 0
        | succ n ih =>
          intro hnm j hj hr
          have hr : (rch p td dr to n j || (bes (rch p td dr to n) j && (firm p td j || decide (j = to)))) = true := hr
          simp only [Bool.or_eq_true, Bool.and_eq_true, decide_eq_true_eq] at hr
          rcases hr with q | ⟨q, q2⟩
          · have := ih (by omega) j hj q; omega
          · obtain ⟨w, b, hw, hb, hrb⟩ := bes_iff.mp q
            have hb16 := nb_lt hj hb
            have hbt : b ≠ to := fun e => by rw [e, h3 n (Nat.zero_le _) (by omega)] at hrb; cases hrb
            have hbf : firm p td b = true := by
              rcases rch_kind n b hrb with z | z | z
              · rw [z]; exact hf
              · exact z
              · exact absurd z hbt
            have hjt : thr p j = true := by
              rcases q2 with z | z
              · exact firm_thr z
              · rw [z]; exact htt
            have hx := hS j hj ⟨hjt, q2⟩ w hw
            unfold rlx at hx
            rw [nbT_of hb (firm_thr hbf)] at hx
            dsimp only at hx
            by_cases hjd : j = dr
            · rw [hjd, hJ.2 hf]; exact Nat.zero_le _
            · rw [if_neg hjd, if_pos hbf] at hx
              have hab := ih (by omega) b hb16 hrb
              by_cases h5 : a j ≤ a b + 1
              · omega
              · rw [if_neg h5] at hx; cases hx
      have h4 := key m (Nat.le_refl _) to ht h1
      have h5 : a to < 1000 := by omega
      have h6 := ((hJ.1 to ht).2 h5).2
      rw [if_pos h5]
      by_cases h7 : a to < m
      · rw [h3 (a to) (Nat.zero_le _) h7] at h6; cases h6
      · rw [show a to = m by omega]; rfl
  · rw [if_neg hf]
    by_cases h : a to < 1000
    · exact absurd ((hJ.1 to ht).2 h).1 hf
    · rw [if_neg h]
theorem wx_barrowM {p : Pl} {td : Nat → Bool} {dr to : Nat} {x1 x2 : Int32} {M0 : Mem} {Q : Option Value → Mem → Prop} (hp : WfP p) (hm : RMp p M0) (h36 : M0.1 46 36 = sI td) (hdr : pO p = dr) (hdl : dr < 16) (htl : to < 16) (htt : thr p to = true) (hQ : ∀ M', BM M0 M' → Q (some (.int (baA p td dr to))) M') :
    ∀ s a M, sumA a 16 = s → JJ p td dr to a → FM a M → BM M0 M → WX mi_M_barrow 6 Q 70 [some (.ref 37), some (.int x1), some (.int x2), some (.int (nI to)), some (.int 1), none, none, none, none] [] M := by
  intro s
  induction s using Nat.strongRecOn with
  | ind s ihs =>
  intro a0 M1 hs hJ0 hf0 hb0
  have to16 : vp_in (nI to) 16 := vp_in_nI htl (by decide)
  have pass : ∀ k, k ≤ 16 → ∀ (a : Nat → Nat) (m : Bool) (M : Mem), FM a M → BM M0 M → JJ p td dr to a → (m = true → sumA a 16 < sumA a0 16) → (m = false → a = a0 ∧ ∀ j, j < k → AA p td to j → ∀ n, n < 4 → rlx p td dr a0 j n = none) → WX mi_M_barrow 6 Q 81 [some (.ref 37), some (.int x1), some (.int x2), some (.int (nI to)), some (.int (bI m)), some (.int (nI k)), none, none, none] [] M := by
    refine downN 16 (fun a m M hf hb hJ h1 h2 => ?_) (fun k hk ih a m M hf hb hJ h1 h2 => ?_)
    · refine sg_M_barrow_37_81 M _ _ _ _ _ (fun _ => ?_) (fun c => absurd ge16 c)
      cases m with
      | true =>
        have := h1 rfl
        exact ihs (sumA a 16) (by omega) a M rfl hJ hf hb
      | false =>
        obtain ⟨e, hS⟩ := h2 rfl
        have ht54 : M.1 54 (nI to).toNatClampNeg = nI (a to) := by rw [nI_clamp (by omega)]; exact hf to htl
        have fo := far_ok hdl htl htt hJ (by rw [e]; exact hS)
        have ato := (hJ.1 to htl).1
        have fin := hQ M hb
        rw [← fo] at fin
        refine sg_M_barrow_37_70 M _ _ _ _ (fun _ => to16) (fun _ _ => to16) (fun _ c => ?_) (fun _ c => ?_) (fun c => absurd rfl c)
        · rw [ht54, show (1000 : Int32) = nI 1000 from rfl] at c
          have := (nI_lt_iff (by omega) (by omega)).mp c
          rw [if_pos this] at fin
          rw [ht54]
          exact fin
        · rw [ht54, show (1000 : Int32) = nI 1000 from rfl] at c
          rw [if_neg (fun q => c ((nI_lt_iff (by omega) (by omega)).mpr q))] at fin
          exact fin
    · refine sg_M_barrow_37_81 M _ _ _ _ _ (fun c => absurd c (lt16 hk)) (fun _ => ?_)
      by_cases hA : AA p td to k
      · have ways : ∀ n, n ≤ 4 → ∀ (a : Nat → Nat) (m : Bool) (M : Mem), FM a M → BM M0 M → JJ p td dr to a → (m = true → sumA a 16 < sumA a0 16) → (m = false → (a = a0 ∧ ∀ j, j < k → AA p td to j → ∀ n, n < 4 → rlx p td dr a0 j n = none) ∧ ∀ i, i < n → rlx p td dr a0 k i = none) → WX mi_M_barrow 6 Q 91 [some (.ref 37), some (.int x1), some (.int x2), some (.int (nI to)), some (.int (bI m)), some (.int (nI k)), some (.int (nI n)), none, none] [] M := by
          refine downN 4 (fun a m M hf hb hJ h1 h2 => ?_) (fun n hn ih2 a m M hf hb hJ h1 h2 => ?_)
          · have nxt := ih a m M hf hb hJ h1 (fun q => ⟨(h2 q).1.1, fun j hj hAj n hn => by
              by_cases e : j = k
              · rw [e]; exact (h2 q).2 n hn
              · exact (h2 q).1.2 j (by omega) hAj n hn⟩)
            rw [← nI_1] at nxt
            have g4 : (4 : Int32) ≤ nI 4 := by decide
            refine sg_M_barrow_37_91 M _ _ _ _ _ _ ?_ ?_ ?_ ?_ ?_ ?_ ?_ ?_ ?_ ?_ ?_ ?_ ?_ ?_ ?_ ?_ ?_ ?_ ?_ ?_ ?_ ?_ ?_ ?_ ?_ ?_ ?_ ?_ ?_ ?_ ?_ ?_ ?_ ?_ ?_ ?_ ?_ ?_ ?_ ?_ ?_ ?_ ?_
            all_goals intros
            all_goals first
              | with_reducible exact absurd g4 (by assumption)
              | with_reducible exact nxt
          · obtain ⟨w1, w2, w3⟩ := way_J (n := n) hk hn hA hJ
            refine wx_bway hp hm h36 hdr hdl htl hk hn hA hf hb (fun j hj => (hJ.1 j hj).1) (fun M' hf' hb' => ?_)
            refine ih2 _ _ M' hf' hb' w1 (fun q => ?_) (fun q => ?_)
            · cases hr : (rlx p td dr a k n).isSome with
              | true =>
                have l1 := w2 hr
                cases m with
                | true => have := h1 rfl; omega
                | false => rw [(h2 rfl).1.1] at l1 ⊢; exact l1
              | false =>
                rw [hr, Bool.or_false] at q
                rw [w3 hr]
                exact h1 q
            · cases m with
              | true => cases q
              | false =>
                have hr : (rlx p td dr a k n).isSome = false := q
                obtain ⟨⟨e1, e2⟩, e3⟩ := h2 rfl
                refine ⟨⟨(w3 hr).trans e1, e2⟩, fun i hi => ?_⟩
                by_cases ei : i = n
                · rw [ei, ← e1]
                  cases hz : rlx p td dr a k n with
                  | none => rfl
                  | some v => rw [hz] at hr; cases hr
                · exact e3 i (by omega)
        exact ways 0 (by decide) a m M hf hb hJ h1 (fun q => ⟨h2 q, fun i hi => absurd hi (Nat.not_lt_zero i)⟩)
      · have nxt := ih a m M hf hb hJ h1 (fun q => ⟨(h2 q).1, fun j hj hAj n hn => by
          by_cases e : j = k
          · rw [e] at hAj; exact absurd hAj hA
          · exact (h2 q).2 j (by omega) hAj n hn⟩)
        rw [← nI_1] at nxt
        have hmM := hb.p hm
        have f1 : ¬ (4 : Int32) ≤ 0 := by decide
        have hcell : ∀ x y : Int32, z_M_isCell_37 M x y = 0 ∨ z_M_isCell_37 M x y = 1 := fun x y => by rw [isCell_M hp hmM]; exact bI_01 _
        have vk : vp_in (nI k) 16 := vp_in_nI hk (by decide)
        have e36 : M.1 46 36 = sI td := by rw [hb.1 46 (by decide)]; exact h36
        cases ht : thr p k with
        | false =>
          have f2 : z_M_isThere_37 M (nI k) = 0 := by rw [isThere_M hp hmM hk, ht]; rfl
          refine sg_M_barrow_37_91 M _ _ _ _ _ _ ?_ ?_ ?_ ?_ ?_ ?_ ?_ ?_ ?_ ?_ ?_ ?_ ?_ ?_ ?_ ?_ ?_ ?_ ?_ ?_ ?_ ?_ ?_ ?_ ?_ ?_ ?_ ?_ ?_ ?_ ?_ ?_ ?_ ?_ ?_ ?_ ?_ ?_ ?_ ?_ ?_ ?_ ?_
          all_goals intros
          all_goals first
            | with_reducible exact absurd (by assumption) f1
            | with_reducible exact absurd f2 (by assumption)
            | with_reducible exact hcell _ _
            | with_reducible exact nxt
        | true =>
          have nf : firm p td k = false := by
            cases q : firm p td k with
            | false => rfl
            | true => exact absurd ⟨ht, Or.inl q⟩ hA
          have f2 : ¬ z_M_isThere_37 M (nI k) = 0 := by rw [isThere_M hp hmM hk, ht]; decide
          have f3 : z_M_isFirm_37 M (nI k) = 0 := by rw [isFirm_M hp hmM e36 hk, nf]; rfl
          have f4 : ¬ nI k = nI to := fun q => hA ⟨ht, Or.inr ((nI_eq (by omega) (by omega)).mp q)⟩
          refine sg_M_barrow_37_91 M _ _ _ _ _ _ ?_ ?_ ?_ ?_ ?_ ?_ ?_ ?_ ?_ ?_ ?_ ?_ ?_ ?_ ?_ ?_ ?_ ?_ ?_ ?_ ?_ ?_ ?_ ?_ ?_ ?_ ?_ ?_ ?_ ?_ ?_ ?_ ?_ ?_ ?_ ?_ ?_ ?_ ?_ ?_ ?_ ?_ ?_
          all_goals intros
          all_goals first
            | with_reducible exact absurd (by assumption) f1
            | with_reducible exact absurd (by assumption) f2
            | with_reducible exact absurd f3 (by assumption)
            | with_reducible exact absurd (by assumption) f4
            | with_reducible exact hcell _ _
            | with_reducible exact nxt
  refine sg_M_barrow_37_70 M1 _ _ _ _ (fun c => absurd c (by decide)) (fun c => absurd c (by decide)) (fun c => absurd c (by decide)) (fun c => absurd c (by decide)) (fun _ => ?_)
  exact pass 0 (by decide) a0 false M1 hf0 hb0 hJ0 (fun q => by cases q) (fun _ => ⟨rfl, fun j hj => absurd hj (Nat.not_lt_zero j)⟩)
