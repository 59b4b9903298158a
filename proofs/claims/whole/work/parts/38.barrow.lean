/-! ===== barrow, the model's; printed by wip/gen/p38.py ===== -/
def rlx (p : Pl) (td : Nat → Bool) (dr : Nat) (a : Nat → Nat) (k n : Nat) : Option Nat := match nbT p k n with
  | none => none
  | some b => if k = dr then none else if firm p td b = true then (if a k ≤ a b + 1 then none else some (a b + 1)) else none
def updN (a : Nat → Nat) (k v : Nat) : Nat → Nat := fun j => if j = k then v else a j
def wayS (p : Pl) (td : Nat → Bool) (dr : Nat) (a : Nat → Nat) (k n : Nat) : Nat → Nat := match rlx p td dr a k n with
  | none => a
  | some v => updN a k v
def FM (a : Nat → Nat) (M : Mem) : Prop := ∀ j, j < 16 → M.1 54 j = nI (a j)
def BM (M0 M : Mem) : Prop := (∀ q, q ≠ 54 → M.1 q = M0.1 q) ∧ M.2 = M0.2
theorem FM.same {a : Nat → Nat} {M : Mem} (h : FM a M) (k : Nat) : FM a (wr M 54 k (M.1 54 k)) := fun j hj => by
  rw [upd_row]
  by_cases e : j = k
  · rw [if_pos e, ← e]; exact h j hj
  · rw [if_neg e]; exact h j hj
theorem FM.new {a : Nat → Nat} {M : Mem} (h : FM a M) (k v : Nat) : FM (updN a k v) (wr M 54 k (nI v)) := fun j hj => by
  rw [upd_row]
  unfold updN
  by_cases e : j = k
  · rw [if_pos e, if_pos e]
  · rw [if_neg e, if_neg e]; exact h j hj
theorem bm_wr {M0 M : Mem} (h : BM M0 M) (k : Nat) (v : Int32) : BM M0 (wr M 54 k v) := ⟨fun q hq => by rw [wr_ne _ hq]; exact h.1 q hq, h.2⟩
theorem BM.p {p : Pl} {M0 M : Mem} (h : BM M0 M) (hm : RMp p M0) : RMp p M := by
  unfold RMp at hm ⊢
  rw [h.1 39 (by decide), h.1 40 (by decide), h.1 41 (by decide), h.1 42 (by decide), h.1 43 (by decide)]
  exact hm
theorem wx_bway {p : Pl} {td : Nat → Bool} {dr to k n : Nat} {a : Nat → Nat} {m : Bool} {x1 x2 : Int32} {M0 M : Mem} {Q : Option Value → Mem → Prop} (hp : WfP p) (hm : RMp p M0) (h36 : M0.1 46 36 = sI td) (hdr : pO p = dr) (hdl : dr < 16) (htl : to < 16) (hk : k < 16) (hn : n < 4) (hA : thr p k = true ∧ (firm p td k = true ∨ k = to)) (hf : FM a M) (hb : BM M0 M) (ha : ∀ j, j < 16 → a j ≤ 1000)
    (hQ : ∀ M', FM (wayS p td dr a k n) M' → BM M0 M' → WX mi_M_barrow 6 Q 91 [some (.ref 37), some (.int x1), some (.int x2), some (.int (nI to)), some (.int (bI (m || (rlx p td dr a k n).isSome))), some (.int (nI k)), some (.int (nI (n + 1))), none, none] [] M') :
    WX mi_M_barrow 6 Q 91 [some (.ref 37), some (.int x1), some (.int x2), some (.int (nI to)), some (.int (bI m)), some (.int (nI k)), some (.int (nI n)), none, none] [] M := by
  have hmM := hb.p hm
  have f1 : ¬ (4 : Int32) ≤ nI n := Int32.not_le.mpr (nI_lt (b := 4) hn (by decide))
  have hcell : ∀ x y : Int32, z_M_isCell_37 M x y = 0 ∨ z_M_isCell_37 M x y = 1 := fun x y => by rw [isCell_M hp hmM]; exact bI_01 _
  have f2 : ¬ z_M_isThere_37 M (nI k) = 0 := by rw [isThere_M hp hmM hk, hA.1]; decide
  have vk : vp_in (nI k) 16 := vp_in_nI hk (by decide)
  have e36 : M.1 46 36 = sI td := by rw [hb.1 46 (by decide)]; exact h36
  have ekf := isFirm_M hp hmM e36 hk
  have ebs := beside_M hp hmM hk hn
  have e43 : M.1 43 0 = nI dr := by rw [← hdr]; exact hmM.2.2.1
  have ek : (nI k).toNatClampNeg = k := nI_clamp (by omega)
  have fk := hf k hk
  -- the outcome where nothing changes
  have keep : rlx p td dr a k n = none → (m = true → WX mi_M_barrow 6 Q 91 [some (.ref 37), some (.int x1), some (.int x2), some (.int (nI to)), some (.int 1), some (.int (nI k)), some (.int (nI n + 1)), none, none] [] (wr M 54 (nI k).toNatClampNeg (M.1 54 (nI k).toNatClampNeg))) ∧ (m = false → WX mi_M_barrow 6 Q 91 [some (.ref 37), some (.int x1), some (.int x2), some (.int (nI to)), some (.int 0), some (.int (nI k)), some (.int (nI n + 1)), none, none] [] (wr M 54 (nI k).toNatClampNeg (M.1 54 (nI k).toNatClampNeg))) := by
    intro hr
    have h1 := hQ (wr M 54 (nI k).toNatClampNeg (M.1 54 (nI k).toNatClampNeg)) (by unfold wayS; rw [hr]; exact hf.same _) (bm_wr hb _ _)
    rw [hr] at h1
    rw [nI_1]
    exact ⟨fun e => by rw [e] at h1; exact h1, fun e => by rw [e] at h1; exact h1⟩
  have mt : ¬ bI m = 0 → m = true := fun c => by rw [bI_0] at c; simpa using c
  have mf : bI m = 0 → m = false := fun c => (bI_0 m).mp c
  have g : z_M_isFirm_37 M (nI k) = 0 → ¬ nI k = nI to → False := fun c1 c2 => by
    rcases hA.2 with q | q
    · rw [ekf, q] at c1; exact absurd c1 (by decide)
    · exact c2 (by rw [q])
  cases ho : nbT p k n with
  | none =>
    rw [ho] at ebs
    have b9 : z_M_beside_37 M (nI k) (nI n) = -9 := ebs
    have hr : rlx p td dr a k n = none := by unfold rlx; rw [ho]
    have K := keep hr
    refine sg_M_barrow_37_91 M _ _ _ _ _ _ ?_ ?_ ?_ ?_ ?_ ?_ ?_ ?_ ?_ ?_ ?_ ?_ ?_ ?_ ?_ ?_ ?_ ?_ ?_ ?_ ?_ ?_ ?_ ?_ ?_ ?_ ?_ ?_ ?_ ?_ ?_ ?_ ?_ ?_ ?_ ?_ ?_ ?_ ?_ ?_ ?_ ?_ ?_
    all_goals intros
    all_goals first
      | with_reducible exact absurd (by assumption) f1
      | with_reducible exact absurd (by assumption) f2
      | with_reducible exact absurd b9 (by assumption)
      | with_reducible exact (g (by assumption) (by assumption)).elim
      | with_reducible exact vk
      | with_reducible exact hcell _ _
      | with_reducible exact K.1 (mt (by assumption))
      | with_reducible exact K.2 (mf (by assumption))
  | some b =>
    have hb16 := nbT_lt hk ho
    rw [ho] at ebs
    have ebs : z_M_beside_37 M (nI k) (nI n) = nI b := ebs
    have b9 : ¬ z_M_beside_37 M (nI k) (nI n) = -9 := by rw [ebs]; exact nI_nm9 (by omega)
    have vb : vp_in (z_M_beside_37 M (nI k) (nI n)) 16 := by rw [ebs]; exact vp_in_nI hb16 (by decide)
    have ebf : z_M_isFirm_37 M (z_M_beside_37 M (nI k) (nI n)) = bI (firm p td b) := by rw [ebs]; exact isFirm_M hp hmM e36 hb16
    have e54 : M.1 54 (z_M_beside_37 M (nI k) (nI n)).toNatClampNeg + 1 = nI (a b + 1) := by rw [ebs, nI_clamp (by omega), hf b hb16, nI_1]
    have e54k : M.1 54 (nI k).toNatClampNeg = nI (a k) := by rw [ek]; exact fk
    have ab := ha b hb16
    have ak := ha k hk
    by_cases hd : k = dr
    · have d1 : nI k = M.1 43 0 := by rw [e43, hd]
      have hr : rlx p td dr a k n = none := by unfold rlx; rw [ho]; dsimp only; rw [if_pos hd]
      have K := keep hr
      refine sg_M_barrow_37_91 M _ _ _ _ _ _ ?_ ?_ ?_ ?_ ?_ ?_ ?_ ?_ ?_ ?_ ?_ ?_ ?_ ?_ ?_ ?_ ?_ ?_ ?_ ?_ ?_ ?_ ?_ ?_ ?_ ?_ ?_ ?_ ?_ ?_ ?_ ?_ ?_ ?_ ?_ ?_ ?_ ?_ ?_ ?_ ?_ ?_ ?_
      all_goals intros
      all_goals first
        | with_reducible exact absurd (by assumption) f1
        | with_reducible exact absurd (by assumption) f2
        | with_reducible exact absurd (by assumption) b9
        | with_reducible exact absurd d1 (by assumption)
        | with_reducible exact (g (by assumption) (by assumption)).elim
        | with_reducible exact vk
        | with_reducible exact vb
        | with_reducible exact hcell _ _
        | with_reducible exact K.1 (mt (by assumption))
        | with_reducible exact K.2 (mf (by assumption))
    · have d1 : ¬ nI k = M.1 43 0 := by rw [e43]; exact fun q => hd ((nI_eq (by omega) (by omega)).mp q)
      cases hfb : firm p td b with
      | false =>
        have bf0 : z_M_isFirm_37 M (z_M_beside_37 M (nI k) (nI n)) = 0 := by rw [ebf, hfb]; rfl
        have hr : rlx p td dr a k n = none := by unfold rlx; rw [ho]; dsimp only; rw [if_neg hd, if_neg (by rw [hfb]; decide)]
        have K := keep hr
        refine sg_M_barrow_37_91 M _ _ _ _ _ _ ?_ ?_ ?_ ?_ ?_ ?_ ?_ ?_ ?_ ?_ ?_ ?_ ?_ ?_ ?_ ?_ ?_ ?_ ?_ ?_ ?_ ?_ ?_ ?_ ?_ ?_ ?_ ?_ ?_ ?_ ?_ ?_ ?_ ?_ ?_ ?_ ?_ ?_ ?_ ?_ ?_ ?_ ?_
        all_goals intros
        all_goals first
          | with_reducible exact absurd (by assumption) f1
          | with_reducible exact absurd (by assumption) f2
          | with_reducible exact absurd (by assumption) b9
          | with_reducible exact absurd (by assumption) d1
          | with_reducible exact absurd bf0 (by assumption)
          | with_reducible exact (g (by assumption) (by assumption)).elim
          | with_reducible exact vk
          | with_reducible exact vb
          | with_reducible exact hcell _ _
          | with_reducible exact K.1 (mt (by assumption))
          | with_reducible exact K.2 (mf (by assumption))
      | true =>
        have bf1 : ¬ z_M_isFirm_37 M (z_M_beside_37 M (nI k) (nI n)) = 0 := by rw [ebf, hfb]; decide
        by_cases hle : a k ≤ a b + 1
        · have l1 : M.1 54 (nI k).toNatClampNeg ≤ M.1 54 (z_M_beside_37 M (nI k) (nI n)).toNatClampNeg + 1 := by rw [e54, e54k]; exact (nI_le_iff (by omega) (by omega)).mpr hle
          have hr : rlx p td dr a k n = none := by unfold rlx; rw [ho]; dsimp only; rw [if_neg hd, if_pos hfb, if_pos hle]
          have K := keep hr
          refine sg_M_barrow_37_91 M _ _ _ _ _ _ ?_ ?_ ?_ ?_ ?_ ?_ ?_ ?_ ?_ ?_ ?_ ?_ ?_ ?_ ?_ ?_ ?_ ?_ ?_ ?_ ?_ ?_ ?_ ?_ ?_ ?_ ?_ ?_ ?_ ?_ ?_ ?_ ?_ ?_ ?_ ?_ ?_ ?_ ?_ ?_ ?_ ?_ ?_
          all_goals intros
          all_goals first
            | with_reducible exact absurd (by assumption) f1
            | with_reducible exact absurd (by assumption) f2
            | with_reducible exact absurd (by assumption) b9
            | with_reducible exact absurd (by assumption) d1
            | with_reducible exact absurd (by assumption) bf1
            | with_reducible exact absurd l1 (by assumption)
            | with_reducible exact (g (by assumption) (by assumption)).elim
            | with_reducible exact vk
            | with_reducible exact vb
            | with_reducible exact hcell _ _
            | with_reducible exact K.1 (mt (by assumption))
            | with_reducible exact K.2 (mf (by assumption))
        · have l1 : ¬ M.1 54 (nI k).toNatClampNeg ≤ M.1 54 (z_M_beside_37 M (nI k) (nI n)).toNatClampNeg + 1 := by rw [e54, e54k]; exact fun q => hle ((nI_le_iff (by omega) (by omega)).mp q)
          have hr : rlx p td dr a k n = some (a b + 1) := by unfold rlx; rw [ho]; dsimp only; rw [if_neg hd, if_pos hfb, if_neg hle]
          have K : WX mi_M_barrow 6 Q 91 [some (.ref 37), some (.int x1), some (.int x2), some (.int (nI to)), some (.int 1), some (.int (nI k)), some (.int (nI n + 1)), none, none] [] (wr M 54 (nI k).toNatClampNeg (M.1 54 (z_M_beside_37 M (nI k) (nI n)).toNatClampNeg + 1)) := by
            rw [e54, ek]
            have h1 := hQ (wr M 54 k (nI (a b + 1))) (by unfold wayS; rw [hr]; exact hf.new _ _) (bm_wr hb _ _)
            rw [hr] at h1
            rw [nI_1]
            have e1 : bI (m || (some (a b + 1)).isSome) = 1 := by cases m <;> rfl
            rw [e1] at h1
            exact h1
          refine sg_M_barrow_37_91 M _ _ _ _ _ _ ?_ ?_ ?_ ?_ ?_ ?_ ?_ ?_ ?_ ?_ ?_ ?_ ?_ ?_ ?_ ?_ ?_ ?_ ?_ ?_ ?_ ?_ ?_ ?_ ?_ ?_ ?_ ?_ ?_ ?_ ?_ ?_ ?_ ?_ ?_ ?_ ?_ ?_ ?_ ?_ ?_ ?_ ?_
          all_goals intros
          all_goals first
            | with_reducible exact absurd (by assumption) f1
            | with_reducible exact absurd (by assumption) f2
            | with_reducible exact absurd (by assumption) b9
            | with_reducible exact absurd (by assumption) d1
            | with_reducible exact absurd (by assumption) bf1
            | with_reducible exact absurd (by assumption) l1
            | with_reducible exact (g (by assumption) (by assumption)).elim
            | with_reducible exact vk
            | with_reducible exact vb
            | with_reducible exact hcell _ _
            | with_reducible exact K
