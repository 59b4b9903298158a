def tw1 (p : Pl) (g : Gd) (cb k n : Nat) : Bool := match nbT p k n with
  | some o => decide (gSl g o = some cb)
  | none => false
def twN (p : Pl) (g : Gd) (cb k : Nat) : Nat → Bool
  | 0 => false
  | n + 1 => twN p g cb k n || tw1 p g cb k n
def tcN (p : Pl) (g : Gd) (ca cb : Nat) : Nat → Bool
  | 0 => false
  | k + 1 => tcN p g ca cb k || (decide (gSl g k = some ca) && twN p g cb k 4)
theorem twN_iff {p : Pl} {g : Gd} {cb k : Nat} : ∀ n, twN p g cb k n = true ↔ ∃ w, w < n ∧ tw1 p g cb k w = true
  | 0 => ⟨fun h => (by cases h), fun ⟨w, hw, _⟩ => absurd hw (Nat.not_lt_zero w)⟩
  | n + 1 => by
    show (twN p g cb k n || tw1 p g cb k n) = true ↔ _
    rw [Bool.or_eq_true, twN_iff n]
    constructor
    · rintro (⟨w, hw, h⟩ | h)
      · exact ⟨w, by omega, h⟩
      · exact ⟨n, by omega, h⟩
    · rintro ⟨w, hw, h⟩
      by_cases e : w = n
      · rw [e] at h; exact Or.inr h
      · exact Or.inl ⟨w, by omega, h⟩
theorem tcN_iff {p : Pl} {g : Gd} {ca cb : Nat} : ∀ n, tcN p g ca cb n = true ↔ ∃ k, k < n ∧ gSl g k = some ca ∧ twN p g cb k 4 = true
  | 0 => ⟨fun h => (by cases h), fun ⟨w, hw, _⟩ => absurd hw (Nat.not_lt_zero w)⟩
  | n + 1 => by
    show (tcN p g ca cb n || (decide (gSl g n = some ca) && twN p g cb n 4)) = true ↔ _
    rw [Bool.or_eq_true, tcN_iff n, Bool.and_eq_true, decide_eq_true_eq]
    constructor
    · rintro (⟨w, hw, h⟩ | h)
      · exact ⟨w, by omega, h⟩
      · exact ⟨n, by omega, h⟩
    · rintro ⟨w, hw, h⟩
      by_cases e : w = n
      · rw [e] at h; exact Or.inr h
      · exact Or.inl ⟨w, by omega, h⟩
theorem tc_al {B : Nat} {p : Pl} {g : Gd} (hg : WfG B p g) {a b z y : Nat} (ha : szAt g a = some z) (hb : szAt g b = some y) : tcN p g (16 * z + a) (16 * y + b) 16 = (List.range 16).any (fun k => jnA 0 g a k && bes (jnA 0 g b) k) := by
  rw [Bool.eq_iff_iff, tcN_iff, List.any_eq_true]
  have ja : ∀ k, jnA 0 g a k = true ↔ gSl g k = some (16 * z + a) := fun k => by
    unfold jnA
    rw [ha]
    exact ⟨fun h => ((szAt_some hg ha).2.2.2.2 k h).2.2, fun h => (szAt_of hg h).2.1⟩
  have jb : ∀ k, jnA 0 g b k = true ↔ gSl g k = some (16 * y + b) := fun k => by
    unfold jnA
    rw [hb]
    exact ⟨fun h => ((szAt_some hg hb).2.2.2.2 k h).2.2, fun h => (szAt_of hg h).2.1⟩
  constructor
  · rintro ⟨k, hk, h1, h2⟩
    obtain ⟨w, hw, h3⟩ := (twN_iff 4).mp h2
    unfold tw1 at h3
    cases e : nbT p k w with
    | none => rw [e] at h3; cases h3
    | some o =>
      rw [e] at h3
      have h3 : gSl g o = some (16 * y + b) := by simpa using h3
      refine ⟨k, List.mem_range.mpr hk, ?_⟩
      rw [(ja k).mpr h1, bes_iff.mpr ⟨w, o, hw, (nbT_some e).1, (jb o).mpr h3⟩]
      rfl
  · rintro ⟨k, hk, h⟩
    rw [Bool.and_eq_true] at h
    obtain ⟨w, o, hw, h1, h2⟩ := bes_iff.mp h.2
    have h3 := (jb o).mp h2
    have ht := layb_thr ((hg.2.1 o _ h3).2.2.2 o (hg.2.1 o _ h3).2.2.1).2.1
    refine ⟨k, List.mem_range.mp hk, (ja k).mp h.1, (twN_iff 4).mpr ⟨w, hw, ?_⟩⟩
    unfold tw1
    rw [nbT_of h1 ht]
    exact decide_eq_true h3
theorem wx_doTouch {B : Nat} {p : Pl} {g : Gd} {ca cb : Nat} {M : Mem} {Q : Option Value → Mem → Prop} (hp : WfP p) (hm : RMp p M) (hg : WfG B p g) (hs : ∀ k, k < 16 → M.1 46 (16 + k) = eSl (gSl g k)) (hca : ca < 64) (hcb : cb < 64) (hQ : Q (some (.int (bI (tcN p g ca cb 16)))) M) : WX mi_M_doTouch 4 Q 0 [some (.ref 37), some (.int (nI ca)), some (.int (nI cb)), none, none, none, none] [] M := by
  refine sg_M_doTouch_37_0 M _ _ ?_
  have eqS : ∀ k c, k < 16 → c < 64 → (M.1 46 (16 + nI k).toNatClampNeg = nI c ↔ gSl g k = some c) := fun k c hk hc => by
    rw [show (16 : Int32) = nI 16 from rfl, nI_add, nI_clamp (by omega), hs k hk]
    cases e : gSl g k with
    | none => exact ⟨fun h => absurd h.symm (nI_nm9 (by omega)), fun h => by cases h⟩
    | some d =>
      have hd := (hg.2.1 k d e).2.1.1
      exact ⟨fun h => by rw [(nI_eq (a := d) (b := c) (by omega) (by omega)).mp h], fun h => by cases h; rfl⟩
  have outer : ∀ k, k ≤ 16 → WX mi_M_doTouch 4 Q 5 [some (.ref 37), some (.int (nI ca)), some (.int (nI cb)), some (.int (bI (tcN p g ca cb k))), some (.int (nI k)), none, none] [] M := by
    refine downN 16 ?_ (fun k hk ih => ?_)
    · exact sg_M_doTouch_37_5 M _ _ _ _ (fun _ => bI_01 _) (fun _ => hQ) (fun c => absurd ge16 c)
    · have v : vp_in (16 + nI k) 1257 := by rw [show (16 : Int32) = nI 16 from rfl, nI_add]; exact vp_in_nI (by omega) (by decide)
      have ih : WX mi_M_doTouch 4 Q 5 [some (.ref 37), some (.int (nI ca)), some (.int (nI cb)), some (.int (bI (tcN p g ca cb k || (decide (gSl g k = some ca) && twN p g cb k 4)))), some (.int (nI (k + 1))), none, none] [] M := ih
      refine sg_M_doTouch_37_5 M _ _ _ _ (fun c => absurd c (lt16 hk)) (fun c => absurd c (lt16 hk)) (fun _ => ?_)
      by_cases hc : gSl g k = some ca
      · rw [decide_eq_true hc, Bool.true_and] at ih
        have ht := layb_thr ((hg.2.1 k _ hc).2.2.2 k (hg.2.1 k _ hc).2.2.1).2.1
        have f2 : ¬ z_M_isThere_37 M (nI k) = 0 := by rw [isThere_M hp hm hk, ht]; decide
        have ways : ∀ n, n ≤ 4 → WX mi_M_doTouch 4 Q 15 [some (.ref 37), some (.int (nI ca)), some (.int (nI cb)), some (.int (bI (tcN p g ca cb k || twN p g cb k n))), some (.int (nI k)), some (.int (nI n)), none] [] M := by
          refine downN 4 ?_ (fun n hn ih2 => ?_)
          · have g4 : (4 : Int32) ≤ nI 4 := by decide
            refine sg_M_doTouch_37_15 M _ _ _ _ _ (fun _ => ?_) (fun c => absurd g4 c) (fun c => absurd g4 c) (fun c => absurd g4 c) (fun c => absurd g4 c) (fun c => absurd g4 c) (fun c => absurd g4 c) (fun c => absurd g4 c) (fun c => absurd g4 c) (fun c => absurd g4 c)
            rw [nI_1]
            exact ih
          · have n4 : ¬ (4 : Int32) ≤ nI n := Int32.not_le.mpr (nI_lt (b := 4) hn (by decide))
            have eb := beside_M hp hm hk hn
            have ih2 : WX mi_M_doTouch 4 Q 15 [some (.ref 37), some (.int (nI ca)), some (.int (nI cb)), some (.int (bI (tcN p g ca cb k || (twN p g cb k n || tw1 p g cb k n)))), some (.int (nI k)), some (.int (nI (n + 1))), none] [] M := ih2
            rw [← Bool.or_assoc] at ih2
            refine sg_M_doTouch_37_15 M _ _ _ _ _ (fun c => absurd c n4) (fun _ => v) (fun _ c => absurd ((eqS k ca hk hca).mpr hc) c) (fun _ _ => by rw [isCell_M hp hm]; exact bI_01 _) (fun _ _ c => absurd c f2) (fun _ _ _ c => ?_) (fun _ _ _ c c2 => ?_) (fun _ _ _ c c2 => ?_) (fun _ _ _ c c2 c3 => ?_) (fun _ _ _ c c2 c3 => ?_)
            · rw [bI_0] at c
              rw [show (tcN p g ca cb k || twN p g cb k n) = true by cases q : (tcN p g ca cb k || twN p g cb k n) with | true => rfl | false => exact absurd q c] at ih2
              rw [nI_1]; exact ih2
            · rw [bI_0] at c
              rw [eb] at c2
              have e := (eSl_lt (o := nbT p k n) (fun f hf => nbT_lt hk hf)).mp c2
              rw [c, show tw1 p g cb k n = false by unfold tw1; rw [e]] at ih2
              rw [nI_1]; exact ih2
            · cases e : nbT p k n with
              | none => rw [eb, e] at c2; exact absurd rfl c2
              | some o =>
                have ho := nbT_lt hk e
                rw [eb, e, show eSl (some o) = nI o from rfl, show (16 : Int32) = nI 16 from rfl, nI_add]
                exact vp_in_nI (by omega) (by decide)
            · cases e : nbT p k n with
              | none => rw [eb, e] at c2; exact absurd rfl c2
              | some o =>
                have ho := nbT_lt hk e
                rw [bI_0] at c
                rw [eb, e, show eSl (some o) = nI o from rfl, eqS o cb ho hcb] at c3
                rw [c, show tw1 p g cb k n = false by unfold tw1; rw [e]; exact decide_eq_false c3] at ih2
                rw [nI_1]; exact ih2
            · cases e : nbT p k n with
              | none => rw [eb, e] at c2; exact absurd rfl c2
              | some o =>
                have ho := nbT_lt hk e
                rw [bI_0] at c
                rw [eb, e, show eSl (some o) = nI o from rfl, eqS o cb ho hcb] at c3
                rw [c, show tw1 p g cb k n = true by unfold tw1; rw [e]; exact decide_eq_true c3] at ih2
                rw [nI_1]; exact ih2
        have h0 := ways 0 (by decide)
        rw [show (tcN p g ca cb k || twN p g cb k 0) = tcN p g ca cb k from Bool.or_false _] at h0
        exact h0
      · rw [decide_eq_false hc, Bool.false_and, Bool.or_false] at ih
        have n4 : ¬ (4 : Int32) ≤ 0 := by decide
        have nc : ¬ M.1 46 (16 + nI k).toNatClampNeg = nI ca := fun q => hc ((eqS k ca hk hca).mp q)
        refine sg_M_doTouch_37_15 M _ _ _ _ _ (fun c => absurd c n4) (fun _ => v) (fun _ _ => ?_) (fun _ c => absurd c nc) (fun _ c => absurd c nc) (fun _ c => absurd c nc) (fun _ c => absurd c nc) (fun _ c => absurd c nc) (fun _ c => absurd c nc) (fun _ c => absurd c nc)
        rw [nI_1]
        exact ih
  exact outer 0 (by decide)
