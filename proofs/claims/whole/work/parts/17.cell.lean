/-! ===== cell, and what is told of now but water and slabs side by side ===== -/
theorem div16 : ∀ c, c < 64 → nI c / 16 = nI (c / 16) := by decide +kernel
theorem rem16 : ∀ c, c < 64 → rem (nI c) 16 = nI (c % 16) := by decide +kernel
theorem nI_nm9 {n : Nat} (h : n < 2 ^ 31) : ¬ nI n = -9 := by
  intro q
  have h1 := congrArg Int32.toInt q
  rw [nI_toInt h, show (-9 : Int32).toInt = -9 from rfl] at h1
  omega
theorem RM.sl {s : Sg} {M : Mem} (h : RM s M) {k : Nat} (hk : k < 16) : M.1 46 (16 + k) = eSl (gSl s.2.2.1.1 k) := by
  have := h.2.2.1.1.2.1 k hk
  simpa using this
theorem RM.ht {s : Sg} {M : Mem} (h : RM s M) {k : Nat} (hk : k < 16) (ht : thr s.2.1 k = true) : M.1 46 k = nI (gHt s.2.2.1.1 k) := by
  have := h.2.2.1.1.1 k hk ht
  simpa using this
theorem RM.td {s : Sg} {M : Mem} (h : RM s M) : M.1 46 36 = sI (gTd s.2.2.1.1) := by
  have := h.2.2.1.1.2.2.2.1
  simpa using this
theorem RM.dy {s : Sg} {M : Mem} (h : RM s M) : M.1 46 37 = nI (gDy s.2.2.1.1) := by
  have := h.2.2.1.1.2.2.2.2
  simpa using this
theorem RM.stk {s : Sg} {M : Mem} (h : RM s M) {z : Nat} (hz : z < 4) : M.1 46 (32 + z) = nI (gSt s.2.2.1.1 z) := by
  have := h.2.2.1.1.2.2.1 z hz
  simpa using this
/-- what cell() tells of a cell that is there -/
def celA (p : Pl) (g : Gd) (k : Nat) (w : Int32) : Int32 :=
  if w = 0 then nI (gHt g k) else if w = 1 then (if pL p k = true then 1 else if pD p k = true then 2 else 0) else if w = 2 then (match gSl g k with | some c => nI (c / 16) | none => -9)
  else if w = 3 then ulI g k else if w = 4 then bI (gTd g k) else -1
theorem sortOf_C {p : Pl} {M : Mem} (hp : WfP p) (h : RCp p M) {k : Nat} (hk : k < 16) : z_L_sortOf_6 M (nI k) = (if pL p k = true then 1 else if pD p k = true then 2 else 0) := by
  unfold z_L_sortOf_6
  rw [h.2.2.2.1, h.2.2.2.2, holds_sI hk, holds_sI hk]
  cases pL p k <;> cases pD p k <;> decide
theorem isTodays_C {B : Nat} {p : Pl} {gh : Gh} {M : Mem} (hg : WfG B p gh.1) (h : RCg 9 p gh M) {u : Nat} (hu : u < 16) : z_G_isTodays_9 M (nI u) = bI ((szAt gh.1 u).isSome && gTd gh.1 u) := by
  unfold z_G_isTodays_9
  rw [if_neg (nI_nm9 (by omega)), h.2.2.2.1, holds_sI hu]
  cases ((szAt gh.1 u).isSome && gTd gh.1 u) <;> decide
theorem td_none {B : Nat} {p : Pl} {g : Gd} (hg : WfG B p g) {k : Nat} (h : gSl g k = none) : gTd g k = false := by
  cases ht : gTd g k with
  | false => rfl
  | true =>
    obtain ⟨c, hc⟩ := hg.2.2.1 k ht
    rw [h] at hc
    cases hc
theorem a_cell (x y w : Int32) : Agr Inv mi_C_cell mi_M_cell 5 3 [.int x, .int y, .int w] := by
  refine agr_ans (fun i s M hw hc hm => ?_)
  obtain ⟨t, p, gh, im, sn, tr⟩ := s
  have hp : WfP p := hw.2.1
  have hg : WfG (20 + i) p gh.1 := hw.2.2.1.1
  have hcg : RCg 9 p gh M := hc.2.2.1
  cases ho : okc p x y with
  | false =>
    have e : z_L_has_6 M x y = 0 := by rw [has_C hp hc.2.1, ho]; rfl
    refine ⟨-1, fun Q hQ => ?_, fun M1 Q hm1 hQ => ?_⟩
    · have hd := hQ M (fun _ _ _ => rfl) (fun _ _ => rfl) rfl
      exact sg_C_cell_0_0 M x y w (fun _ => hd) (fun q => absurd e q) (fun q => absurd e q) (fun q => absurd e q)
    · have e' : z_M_isCell_37 M1 x y = 0 := by rw [isCell_M hp hm1.2.1, ho]; rfl
      refine wx_M_cell_37 M1 x y w (fun q => absurd e' q) (fun q => absurd e' q) ?_
      unfold z_M_cell_37
      rw [if_pos e']
      exact hQ M1 hm1 (FrM.refl M1)
  | true =>
    have e : ¬ z_L_has_6 M x y = 0 := by rw [has_C hp hc.2.1, ho]; decide
    have e' : ∀ M1, RM (t, p, gh, im, sn, tr) M1 → ¬ z_M_isCell_37 M1 x y = 0 := fun M1 h => by rw [isCell_M hp h.2.1, ho]; decide
    obtain ⟨k, hk, rfl, rfl, ht⟩ := okc_cell hp ho
    refine ⟨celA p gh.1 k w, fun Q hQ => ?_, fun M1 Q hm1 hQ => ?_⟩
    · have hd := hQ M (fun _ _ _ => rfl) (fun _ _ => rfl) rfl
      have out : ∀ q : ¬ (0 ≤ w ∧ w ≤ 4), celA p gh.1 k w = -1 := by
        intro q
        have n : ∀ j : Int32, (0 ≤ j ∧ j ≤ 4) → ¬ w = j := fun j hj hwj => q (hwj ▸ hj)
        unfold celA
        rw [if_neg (n 0 (by decide)), if_neg (n 1 (by decide)), if_neg (n 2 (by decide)), if_neg (n 3 (by decide)), if_neg (n 4 (by decide))]
      refine sg_C_cell_0_0 M _ _ w (fun q => absurd q e) (fun _ q => ?_) (fun _ q1 q2 => ?_) (fun _ _ q => ?_)
      · rw [out (fun z => absurd q (Int32.not_lt.mpr z.1))] at hd
        exact hd
      · rw [numOf k hk]
        refine wx_slabOn hg hcg hk ?_
        have e16 : (nI k).toNatClampNeg = k := nI_clamp (by omega)
        have h4 : w = 0 ∨ w = 1 ∨ w = 2 ∨ w = 3 ∨ w = 4 := by
          obtain ⟨j, hj, rfl⟩ := nI_of2 (n := 4) (by decide) q1 q2
          have : j = 0 ∨ j = 1 ∨ j = 2 ∨ j = 3 ∨ j = 4 := by omega
          rcases this with rfl | rfl | rfl | rfl | rfl <;> decide
        have hul : ∀ c, gSl gh.1 k = some c → ulI gh.1 k = nI (c % 16) := fun c hs => by unfold ulI; rw [hs]
        refine sg_C_cell_0_39 M _ _ w (nI k) (ulI gh.1 k) (fun _ => vp_in_nI hk (by decide)) (fun q => ?_) (fun q => ?_) (fun q => ?_) (fun q => ?_) (fun n0 n1 n2 n3 q => ?_) (fun n0 n1 n2 n3 q => ?_)
        · rw [e16, hcg.1 k hk ht]
          unfold celA at hd
          rw [if_pos q] at hd
          exact hd
        · rw [sortOf_C hp hc.2.1 hk]
          subst q
          unfold celA at hd
          rw [if_neg (by decide), if_pos rfl] at hd
          exact hd
        · cases hs : gSl gh.1 k with
          | none =>
            rw [show ulI gh.1 k = -9 by unfold ulI; rw [hs], show z_G_sizeOf_9 M (-9) = -9 from if_pos (by decide)]
            subst q
            unfold celA at hd
            rw [if_neg (by decide), if_neg (by decide), if_pos rfl, hs] at hd
            exact hd
          | some c =>
            rw [hul c hs, show z_G_sizeOf_9 M (nI (c % 16)) = M.1 11 (nI (c % 16)).toNatClampNeg from if_neg (isNum_of_in (vp_in_nI (by omega) (by decide))), nI_clamp (by omega), hcg.2.1 (c % 16) (by omega), (szAt_of hg hs).1]
            subst q
            unfold celA at hd
            rw [if_neg (by decide), if_neg (by decide), if_pos rfl, hs] at hd
            exact hd
        · subst q
          unfold celA at hd
          rw [if_neg (by decide), if_neg (by decide), if_neg (by decide), if_pos rfl] at hd
          exact hd
        · have h5 : w = 4 := by
            rcases h4 with h | h | h | h | h
            · exact absurd h n0
            · exact absurd h n1
            · exact absurd h n2
            · exact absurd h n3
            · exact h
          unfold celA at hd
          rw [if_neg n0, if_neg n1, if_neg n2, if_neg n3, if_pos h5] at hd
          cases hs : gSl gh.1 k with
          | none => rw [td_none hg hs] at hd; exact hd
          | some c =>
            rw [hul c hs, isTodays_C hg hcg (by omega), (szAt_of hg hs).1, bI_0] at q
            rw [hg.2.2.2.1 k c hs] at hd
            have : gTd gh.1 (c % 16) = false := by simpa using q
            rw [this] at hd
            exact hd
        · have h5 : w = 4 := by
            rcases h4 with h | h | h | h | h
            · exact absurd h n0
            · exact absurd h n1
            · exact absurd h n2
            · exact absurd h n3
            · exact h
          unfold celA at hd
          rw [if_neg n0, if_neg n1, if_neg n2, if_neg n3, if_pos h5] at hd
          cases hs : gSl gh.1 k with
          | none => unfold ulI at q; rw [hs] at q; exact absurd (by unfold z_G_isTodays_9; rw [if_pos rfl]) q
          | some c =>
            rw [hul c hs, isTodays_C hg hcg (by omega), (szAt_of hg hs).1, bI_0] at q
            rw [hg.2.2.2.1 k c hs] at hd
            have : gTd gh.1 (c % 16) = true := by simpa using q
            rw [this] at hd
            exact hd
      · rw [out (fun z => q z.2)] at hd
        exact hd
    · have hd := hQ M1 hm1 (FrM.refl M1)
      have e16 : (16 + nI k).toNatClampNeg = 16 + k := by rw [show (16 : Int32) = nI 16 from rfl, nI_add, nI_clamp (by omega)]
      refine wx_M_cell_37 M1 _ _ w (fun _ => ?_) (fun _ _ => ?_) ?_
      · rw [numOf' hk, show (16 : Int32) = nI 16 from rfl, nI_add]
        exact vp_in_nI (by omega) (by decide)
      · rw [numOf' hk]
        exact vp_in_nI (by omega) (by decide)
      · have hz : z_M_cell_37 M1 (nI (k % 4)) (nI (k / 4)) w = celA p gh.1 k w := by
          unfold z_M_cell_37 celA
          rw [if_neg (e' M1 hm1), numOf' hk, e16, hm1.sl hk, nI_clamp (by omega), hm1.ht hk ht, isLid_M hm1.2.1 hk, isDrain_M hm1.2.1 hk, hm1.td, bit_at (by omega), bt_sI _ (by omega)]
          have a1 : (if bI (pL p k) = 0 then (if bI (pD p k) = 0 then (0 : Int32) else 2) else 1) = (if pL p k = true then 1 else if pD p k = true then 2 else 0) := by
            cases pL p k <;> cases pD p k <;> decide
          have a2 : bI (decide (k < 16) && gTd gh.1 k) = bI (gTd gh.1 k) := by simp [hk]
          have a3 : (if eSl (gSl gh.1 k) = -9 then (-9 : Int32) else eSl (gSl gh.1 k) / 16) = (match gSl gh.1 k with | some c => nI (c / 16) | none => -9) := by
            cases hs : gSl gh.1 k with
            | none => rfl
            | some c => show (if nI c = -9 then (-9 : Int32) else nI c / 16) = nI (c / 16); rw [if_neg (nI_nm9 (by have := (szAt_of hg hs).2.2.2; omega)), div16 c (szAt_of hg hs).2.2.2]
          have a4 : (if eSl (gSl gh.1 k) = -9 then (-9 : Int32) else rem (eSl (gSl gh.1 k)) 16) = ulI gh.1 k := by
            unfold ulI
            cases hs : gSl gh.1 k with
            | none => rfl
            | some c => show (if nI c = -9 then (-9 : Int32) else rem (nI c) 16) = nI (c % 16); rw [if_neg (nI_nm9 (by have := (szAt_of hg hs).2.2.2; omega)), rem16 c (szAt_of hg hs).2.2.2]
          rw [a1, a2, a3, a4]
        rw [hz]
        exact hd
/-! the model's sets -/
theorem or0 (x : Int32) : x ||| 0 = x := by
  apply b_ext
  intro i hi
  rw [b_or, b_0, Bool.or_false]
/-- a set's first n numbers -/
def fst (f : Nat → Bool) (n k : Nat) : Bool := decide (k < n) && f k
theorem fst_t (f : Nat → Bool) {n : Nat} (h : f n = true) (hn : n < 16) : sI (fst f n) ||| shl 1 (nI n) = sI (fst f (n + 1)) := by
  rw [sI_one hn, sI_or]
  refine sI_ext fun k _ => ?_
  unfold fst
  by_cases hk : k = n
  · subst hk; simp [h]
  · rw [Bool.eq_iff_iff]
    simp only [Bool.or_eq_true, Bool.and_eq_true, decide_eq_true_eq]
    constructor
    · rintro (q | q)
      · exact ⟨by omega, q.2⟩
      · exact absurd q hk
    · rintro ⟨q1, q2⟩
      exact Or.inl ⟨by omega, q2⟩
theorem fst_f (f : Nat → Bool) {n : Nat} (h : f n = false) : sI (fst f n) = sI (fst f (n + 1)) := by
  refine sI_ext fun k _ => ?_
  unfold fst
  by_cases hk : k = n
  · subst hk; simp [h]
  · have : decide (k < n) = decide (k < n + 1) := decide_eq_decide.mpr (by omega)
    rw [this]
theorem fst_0 (f : Nat → Bool) : sI (fst f 0) = 0 := sI_zero.mpr fun k _ => by simp [fst]
theorem fst_16 (f : Nat → Bool) : sI (fst f 16) = sI f := sI_ext fun k hk => by simp [fst, hk]
theorem eSl_m9 {o : Option Nat} (h : ∀ c, o = some c → c < 64) : eSl o = -9 ↔ o = none := by
  cases o with
  | none => exact ⟨fun _ => rfl, fun _ => rfl⟩
  | some c => exact ⟨fun q => absurd q (nI_nm9 (by have := h c rfl; omega)), fun q => by cases q⟩
/-- freeBy, over a row of slabs from o on -/
theorem wx_freeBy46 {p : Pl} {sl : Nat → Option Nat} {M : Mem} {Q : Option Value → Mem → Prop} (hp : WfP p) (hm : RMp p M) {o : Nat} (ho : o + 16 ≤ 1257) (hs : ∀ k, k < 16 → M.1 46 (o + k) = eSl (sl k)) (hb : ∀ k c, sl k = some c → c < 64) (hq : Q (some (.int (sI (fun k => layb p k && !(sl k).isSome)))) M) : WX mi_M_freeBy 4 Q 0 [some (.ref 37), some (.ref 46), some (.int (nI o)), none, none] [] M := by
  refine sg_M_freeBy_37_46_0 M _ ?_
  have loop : ∀ u, u ≤ 16 → WX mi_M_freeBy 4 Q 5 [some (.ref 37), some (.ref 46), some (.int (nI o)), some (.int (sI (fst (fun k => layb p k && !(sl k).isSome) u))), some (.int (nI u))] [] M := by
    refine downN 16 ?_ (fun u hu ih => ?_)
    · rw [fst_16]
      exact sg_M_freeBy_37_46_5 M _ _ _ (fun _ => hq) (fun c => absurd ge16 c) (fun c => absurd ge16 c) (fun c => absurd ge16 c) (fun c => absurd ge16 c) (fun c => absurd ge16 c) (fun c => absurd ge16 c) (fun c => absurd ge16 c)
    · have eo : nI o + nI u = nI (o + u) := nI_add o u
      have e1 : M.1 46 (nI o + nI u).toNatClampNeg = eSl (sl u) := by rw [eo, nI_clamp (by omega)]; exact hs u hu
      refine sg_M_freeBy_37_46_5 M _ _ _ (fun c => absurd c (lt16 hu)) (fun _ => by rw [remOf u hu, divOf u hu, isCell_M hp hm]; exact bI_01 _) (fun _ c => ?_) (fun _ _ c => ?_) (fun _ _ _ c => ?_) (fun _ _ _ _ => by rw [eo]; exact vp_in_nI (by omega) (by decide)) (fun _ _ _ _ c => ?_) (fun _ c1 c2 c3 c4 => ?_)
      · rw [isThere_M hp hm hu, bI_0] at c
        rw [or0, nI_1, fst_f _ (show (layb p u && !(sl u).isSome) = false by unfold layb; simp [c])]
        exact ih
      · rw [isLid_M hm hu, bI_0] at c
        have c' : pL p u = true := by simpa using c
        rw [or0, nI_1, fst_f _ (show (layb p u && !(sl u).isSome) = false by unfold layb; simp [c'])]
        exact ih
      · rw [isDrain_M hm hu, bI_0] at c
        have c' : pD p u = true := by simpa using c
        rw [or0, nI_1, fst_f _ (show (layb p u && !(sl u).isSome) = false by unfold layb; simp [c'])]
        exact ih
      · rw [e1, eSl_m9 (hb u)] at c
        have c' : (sl u).isSome = true := by cases h : sl u with | none => exact absurd h c | some _ => rfl
        rw [or0, nI_1, fst_f _ (show (layb p u && !(sl u).isSome) = false by simp [c'])]
        exact ih
      · rw [isThere_M hp hm hu, bI_0] at c1
        rw [isLid_M hm hu, bI_0] at c2
        rw [isDrain_M hm hu, bI_0] at c3
        rw [e1, eSl_m9 (hb u)] at c4
        have c1' : thr p u = true := by simpa using c1
        rw [nI_1, fst_t _ (show (layb p u && !(sl u).isSome) = true by unfold layb; simp [c1', c2, c3, c4]) hu]
        exact ih
  have h0 := loop 0 (by decide)
  rw [fst_0] at h0
  exact h0
