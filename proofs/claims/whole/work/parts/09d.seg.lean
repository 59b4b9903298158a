/-! ===== printed by wip/gen/gen08.py: the stretches of the methods ===== -/
theorem sg_M_part_49_0 {Q : Option Value → Mem → Prop} (M : Mem) (x1 x2 x3 : Int32)
    (b1 : vp_in (x1 + x2) 16)
    (h2 : (M.1 49 (x1 + x2).toNatClampNeg) = (-9) → Q (some (.int 0)) M)
    (b3 : ¬ (M.1 49 (x1 + x2).toNatClampNeg) = (-9) → vp_in (x1 + x3) 16)
    (h4 : ¬ (M.1 49 (x1 + x2).toNatClampNeg) = (-9) → (M.1 49 (x1 + x3).toNatClampNeg) = (-9) → Q (some (.int 0)) M)
    (b5 : ¬ (M.1 49 (x1 + x2).toNatClampNeg) = (-9) → ¬ (M.1 49 (x1 + x3).toNatClampNeg) = (-9) → vp_in (x1 + x2) 16)
    (b6 : ¬ (M.1 49 (x1 + x2).toNatClampNeg) = (-9) → ¬ (M.1 49 (x1 + x3).toNatClampNeg) = (-9) → vp_in (x1 + x3) 16)
    (h7 : ¬ (M.1 49 (x1 + x2).toNatClampNeg) = (-9) → ¬ (M.1 49 (x1 + x3).toNatClampNeg) = (-9) → (M.1 49 (x1 + x2).toNatClampNeg) = (M.1 49 (x1 + x3).toNatClampNeg) → Q (some (.int 0)) M)
    (h8 : ¬ (M.1 49 (x1 + x2).toNatClampNeg) = (-9) → ¬ (M.1 49 (x1 + x3).toNatClampNeg) = (-9) → ¬ (M.1 49 (x1 + x2).toNatClampNeg) = (M.1 49 (x1 + x3).toNatClampNeg) → Q (some (.int 1)) M) :
    WX mi_M_part 1 Q 0 [some (.ref 49), some (.int x1), some (.int x2), some (.int x3)] [] M := by
  refine WX.run (pc' := 7) (L' := [some (.ref 49), some (.int x1), some (.int x2), some (.int x3)]) (st' := [.int (-9), .int (M.1 49 (x1 + x2).toNatClampNeg)]) (M' := M) (P := (True ∧ vp_in (x1 + x2) 16)) 6 rfl ⟨trivial, b1⟩ ?_
  refine WX.icmp_eq (off := 30) (tgt := 37) rfl rfl (fun c1 => ?_) (fun c1 => ?_)
  · refine WX.run (pc' := 38) (L' := [some (.ref 49), some (.int x1), some (.int x2), some (.int x3)]) (st' := [.int 0]) (M' := M) (P := True) 1 rfl trivial ?_
    exact WX.zret rfl rfl (Or.inl rfl) (h2 c1)
  · refine WX.run (pc' := 17) (L' := [some (.ref 49), some (.int x1), some (.int x2), some (.int x3)]) (st' := [.int (-9), .int (M.1 49 (x1 + x3).toNatClampNeg)]) (M' := M) (P := (True ∧ vp_in (x1 + x3) 16)) 6 rfl ⟨trivial, (b3 c1)⟩ ?_
    refine WX.icmp_eq (off := 20) (tgt := 37) rfl rfl (fun c2 => ?_) (fun c2 => ?_)
    · refine WX.run (pc' := 38) (L' := [some (.ref 49), some (.int x1), some (.int x2), some (.int x3)]) (st' := [.int 0]) (M' := M) (P := True) 1 rfl trivial ?_
      exact WX.zret rfl rfl (Or.inl rfl) (h4 c1 c2)
    · refine WX.run (pc' := 30) (L' := [some (.ref 49), some (.int x1), some (.int x2), some (.int x3)]) (st' := [.int (M.1 49 (x1 + x3).toNatClampNeg), .int (M.1 49 (x1 + x2).toNatClampNeg)]) (M' := M) (P := ((True ∧ vp_in (x1 + x2) 16) ∧ vp_in (x1 + x3) 16)) 10 rfl ⟨⟨trivial, (b5 c1 c2)⟩, (b6 c1 c2)⟩ ?_
      refine WX.icmp_eq (off := 7) (tgt := 37) rfl rfl (fun c3 => ?_) (fun c3 => ?_)
      · refine WX.run (pc' := 38) (L' := [some (.ref 49), some (.int x1), some (.int x2), some (.int x3)]) (st' := [.int 0]) (M' := M) (P := True) 1 rfl trivial ?_
        exact WX.zret rfl rfl (Or.inl rfl) (h7 c1 c2 c3)
      · refine WX.run (pc' := 38) (L' := [some (.ref 49), some (.int x1), some (.int x2), some (.int x3)]) (st' := [.int 1]) (M' := M) (P := True) 2 rfl trivial ?_
        exact WX.zret rfl rfl (Or.inr rfl) (h8 c1 c2 c3)
def z_M_part_49 (M : Mem) (x1 x2 x3 : Int32) : Int32 := (if (M.1 49 (x1 + x2).toNatClampNeg) = (-9) then 0 else (if (M.1 49 (x1 + x3).toNatClampNeg) = (-9) then 0 else (if (M.1 49 (x1 + x2).toNatClampNeg) = (M.1 49 (x1 + x3).toNatClampNeg) then 0 else 1)))
theorem wx_M_part_49 {Q : Option Value → Mem → Prop} (M : Mem) (x1 x2 x3 : Int32)
    (b1 : vp_in (x1 + x2) 16)
    (b3 : ¬ (M.1 49 (x1 + x2).toNatClampNeg) = (-9) → vp_in (x1 + x3) 16)
    (b5 : ¬ (M.1 49 (x1 + x2).toNatClampNeg) = (-9) → ¬ (M.1 49 (x1 + x3).toNatClampNeg) = (-9) → vp_in (x1 + x2) 16)
    (b6 : ¬ (M.1 49 (x1 + x2).toNatClampNeg) = (-9) → ¬ (M.1 49 (x1 + x3).toNatClampNeg) = (-9) → vp_in (x1 + x3) 16)
    (h : Q (some (.int (z_M_part_49 M x1 x2 x3))) M) :
    WX mi_M_part 1 Q 0 [some (.ref 49), some (.int x1), some (.int x2), some (.int x3)] [] M := by
  refine sg_M_part_49_0 M x1 x2 x3
    b1
    (fun c1 => by
      unfold z_M_part_49 at h
      rw [if_pos c1] at h
      exact h)
    b3
    (fun c1 c2 => by
      unfold z_M_part_49 at h
      rw [if_neg c1, if_pos c2] at h
      exact h)
    b5
    b6
    (fun c1 c2 c3 => by
      unfold z_M_part_49 at h
      rw [if_neg c1, if_neg c2, if_pos c3] at h
      exact h)
    (fun c1 c2 c3 => by
      unfold z_M_part_49 at h
      rw [if_neg c1, if_neg c2, if_neg c3] at h
      exact h)
theorem sg_M_put_49_0 {Q : Option Value → Mem → Prop} (M : Mem) (x1 x2 x3 : Int32)
    (h1 : WX mi_M_put 1 Q 3 [some (.ref 49), some (.int x1), some (.int x2), some (.int x3), some (.int 0)] [] M) :
    WX mi_M_put 1 Q 0 [some (.ref 49), some (.int x1), some (.int x2), some (.int x3), none] [] M := by
  refine WX.run (pc' := 3) (L' := [some (.ref 49), some (.int x1), some (.int x2), some (.int x3), some (.int 0)]) (st' := []) (M' := M) (P := True) 2 rfl trivial ?_
  exact h1
theorem sg_M_put_49_3 {Q : Option Value → Mem → Prop} (M : Mem) (x1 x2 x3 x4 : Int32)
    (h1 : 16 ≤ x4 → Q none M)
    (b2 : ¬ 16 ≤ x4 → ¬ ((shr x2 x4) &&& 1) = 1 → vp_in (x1 + x4) 16)
    (h3 : ¬ 16 ≤ x4 → ¬ ((shr x2 x4) &&& 1) = 1 → WX mi_M_put 1 Q 3 [some (.ref 49), some (.int x1), some (.int x2), some (.int x3), some (.int (x4 + 1))] [] (wr M 49 (x1 + x4).toNatClampNeg (M.1 49 (x1 + x4).toNatClampNeg)))
    (b4 : ¬ 16 ≤ x4 → ((shr x2 x4) &&& 1) = 1 → vp_in (x1 + x4) 16)
    (h5 : ¬ 16 ≤ x4 → ((shr x2 x4) &&& 1) = 1 → WX mi_M_put 1 Q 3 [some (.ref 49), some (.int x1), some (.int x2), some (.int x3), some (.int (x4 + 1))] [] (wr M 49 (x1 + x4).toNatClampNeg x3)) :
    WX mi_M_put 1 Q 3 [some (.ref 49), some (.int x1), some (.int x2), some (.int x3), some (.int x4)] [] M := by
  refine WX.run (pc' := 7) (L' := [some (.ref 49), some (.int x1), some (.int x2), some (.int x3), some (.int x4)]) (st' := [.int 16, .int x4]) (M' := M) (P := True) 2 rfl trivial ?_
  refine WX.icmp_ge (off := 35) (tgt := 42) rfl rfl (fun c1 => ?_) (fun c1 => ?_)
  · exact WX.vret rfl rfl (h1 c1)
  · refine WX.run (pc' := 22) (L' := [some (.ref 49), some (.int x1), some (.int x2), some (.int x3), some (.int x4)]) (st' := [.int 1, .int ((shr x2 x4) &&& 1), .int (x1 + x4), .ref 49]) (M' := M) (P := True) 10 rfl trivial ?_
    refine WX.icmp_ne (off := 7) (tgt := 29) rfl rfl (fun c2 => ?_) (fun c2 => ?_)
    · refine WX.run (pc' := 3) (L' := [some (.ref 49), some (.int x1), some (.int x2), some (.int x3), some (.int (x4 + 1))]) (st' := []) (M' := (wr M 49 (x1 + x4).toNatClampNeg (M.1 49 (x1 + x4).toNatClampNeg))) (P := ((True ∧ vp_in (x1 + x4) 16) ∧ vp_in (x1 + x4) 16)) 8 rfl ⟨⟨trivial, (b2 c1 c2)⟩, (b2 c1 c2)⟩ ?_
      exact (h3 c1 c2)
    · refine WX.run (pc' := 3) (L' := [some (.ref 49), some (.int x1), some (.int x2), some (.int x3), some (.int (x4 + 1))]) (st' := []) (M' := (wr M 49 (x1 + x4).toNatClampNeg x3)) (P := (True ∧ vp_in (x1 + x4) 16)) 5 rfl ⟨trivial, (b4 c1 c2)⟩ ?_
      exact (h5 c1 c2)
theorem sg_M_freeBy_37_49_0 {Q : Option Value → Mem → Prop} (M : Mem) (x2 : Int32)
    (h1 : WX mi_M_freeBy 4 Q 5 [some (.ref 37), some (.ref 49), some (.int x2), some (.int 0), some (.int 0)] [] M) :
    WX mi_M_freeBy 4 Q 0 [some (.ref 37), some (.ref 49), some (.int x2), none, none] [] M := by
  refine WX.run (pc' := 5) (L' := [some (.ref 37), some (.ref 49), some (.int x2), some (.int 0), some (.int 0)]) (st' := []) (M' := M) (P := True) 4 rfl trivial ?_
  exact h1
theorem sg_M_freeBy_37_49_5 {Q : Option Value → Mem → Prop} (M : Mem) (x2 x3 x4 : Int32)
    (h1 : 16 ≤ x4 → Q (some (.int x3)) M)
    (b2 : ¬ 16 ≤ x4 → ((z_M_isCell_37 M (rem x4 4) (x4 / 4)) = 0 ∨ (z_M_isCell_37 M (rem x4 4) (x4 / 4)) = 1))
    (h3 : ¬ 16 ≤ x4 → (z_M_isThere_37 M x4) = 0 → WX mi_M_freeBy 4 Q 5 [some (.ref 37), some (.ref 49), some (.int x2), some (.int (x3 ||| 0)), some (.int (x4 + 1))] [] M)
    (h4 : ¬ 16 ≤ x4 → ¬ (z_M_isThere_37 M x4) = 0 → ¬ (z_M_isLid_37 M x4) = 0 → WX mi_M_freeBy 4 Q 5 [some (.ref 37), some (.ref 49), some (.int x2), some (.int (x3 ||| 0)), some (.int (x4 + 1))] [] M)
    (h5 : ¬ 16 ≤ x4 → ¬ (z_M_isThere_37 M x4) = 0 → (z_M_isLid_37 M x4) = 0 → ¬ (z_M_isDrain_37 M x4) = 0 → WX mi_M_freeBy 4 Q 5 [some (.ref 37), some (.ref 49), some (.int x2), some (.int (x3 ||| 0)), some (.int (x4 + 1))] [] M)
    (b6 : ¬ 16 ≤ x4 → ¬ (z_M_isThere_37 M x4) = 0 → (z_M_isLid_37 M x4) = 0 → (z_M_isDrain_37 M x4) = 0 → vp_in (x2 + x4) 16)
    (h7 : ¬ 16 ≤ x4 → ¬ (z_M_isThere_37 M x4) = 0 → (z_M_isLid_37 M x4) = 0 → (z_M_isDrain_37 M x4) = 0 → ¬ (M.1 49 (x2 + x4).toNatClampNeg) = (-9) → WX mi_M_freeBy 4 Q 5 [some (.ref 37), some (.ref 49), some (.int x2), some (.int (x3 ||| 0)), some (.int (x4 + 1))] [] M)
    (h8 : ¬ 16 ≤ x4 → ¬ (z_M_isThere_37 M x4) = 0 → (z_M_isLid_37 M x4) = 0 → (z_M_isDrain_37 M x4) = 0 → (M.1 49 (x2 + x4).toNatClampNeg) = (-9) → WX mi_M_freeBy 4 Q 5 [some (.ref 37), some (.ref 49), some (.int x2), some (.int (x3 ||| (shl 1 x4))), some (.int (x4 + 1))] [] M) :
    WX mi_M_freeBy 4 Q 5 [some (.ref 37), some (.ref 49), some (.int x2), some (.int x3), some (.int x4)] [] M := by
  refine WX.run (pc' := 9) (L' := [some (.ref 37), some (.ref 49), some (.int x2), some (.int x3), some (.int x4)]) (st' := [.int 16, .int x4]) (M' := M) (P := True) 2 rfl trivial ?_
  refine WX.icmp_ge (off := 58) (tgt := 67) rfl rfl (fun c1 => ?_) (fun c1 => ?_)
  · refine WX.run (pc' := 68) (L' := [some (.ref 37), some (.ref 49), some (.int x2), some (.int x3), some (.int x4)]) (st' := [.int x3]) (M' := M) (P := True) 1 rfl trivial ?_
    exact WX.iret rfl rfl (h1 c1)
  · refine WX.run (pc' := 16) (L' := [some (.ref 37), some (.ref 49), some (.int x2), some (.int x3), some (.int x4)]) (st' := [.int x4, .ref 37, .int x3]) (M' := M) (P := True) 3 rfl trivial ?_
    refine WX.callV (ca := mi_M_isThere) (n := 1) (d' := 3) (st := [.int x3]) (As := [.int x4]) (q := 37) rfl lk_7_148 ck_M_isThere cv_M_isThere rfl (by decide) rfl (by decide) ⟨by decide, rfl, by decide⟩ (by intro w hw; simp only [List.mem_cons, List.not_mem_nil, or_false] at hw; rcases hw with rfl <;> rfl) (by decide) ?_
    refine wx_M_isThere_37 M x4 (b2 c1) ?_
    show WX mi_M_freeBy 4 Q 19 [some (.ref 37), some (.ref 49), some (.int x2), some (.int x3), some (.int x4)] [.int (z_M_isThere_37 M x4), .int x3] M
    refine WX.if_eq (off := 39) (tgt := 58) rfl rfl (fun c2 => ?_) (fun c2 => ?_)
    · refine WX.run (pc' := 5) (L' := [some (.ref 37), some (.ref 49), some (.int x2), some (.int (x3 ||| 0)), some (.int (x4 + 1))]) (st' := []) (M' := M) (P := True) 5 rfl trivial ?_
      exact (h3 c1 c2)
    · refine WX.run (pc' := 25) (L' := [some (.ref 37), some (.ref 49), some (.int x2), some (.int x3), some (.int x4)]) (st' := [.int x4, .ref 37, .int x3]) (M' := M) (P := True) 2 rfl trivial ?_
      refine WX.callV (ca := mi_M_isLid) (n := 1) (d' := 1) (st := [.int x3]) (As := [.int x4]) (q := 37) rfl lk_7_134 ck_M_isLid cv_M_isLid rfl (by decide) rfl (by decide) ⟨by decide, rfl, by decide⟩ (by intro w hw; simp only [List.mem_cons, List.not_mem_nil, or_false] at hw; rcases hw with rfl <;> rfl) (by decide) ?_
      refine wx_M_isLid_37 M x4 ?_
      show WX mi_M_freeBy 4 Q 28 [some (.ref 37), some (.ref 49), some (.int x2), some (.int x3), some (.int x4)] [.int (z_M_isLid_37 M x4), .int x3] M
      refine WX.if_ne (off := 30) (tgt := 58) rfl rfl (fun c3 => ?_) (fun c3 => ?_)
      · refine WX.run (pc' := 5) (L' := [some (.ref 37), some (.ref 49), some (.int x2), some (.int (x3 ||| 0)), some (.int (x4 + 1))]) (st' := []) (M' := M) (P := True) 5 rfl trivial ?_
        exact (h4 c1 c2 c3)
      · refine WX.run (pc' := 34) (L' := [some (.ref 37), some (.ref 49), some (.int x2), some (.int x3), some (.int x4)]) (st' := [.int x4, .ref 37, .int x3]) (M' := M) (P := True) 2 rfl trivial ?_
        refine WX.callV (ca := mi_M_isDrain) (n := 1) (d' := 1) (st := [.int x3]) (As := [.int x4]) (q := 37) rfl lk_7_138 ck_M_isDrain cv_M_isDrain rfl (by decide) rfl (by decide) ⟨by decide, rfl, by decide⟩ (by intro w hw; simp only [List.mem_cons, List.not_mem_nil, or_false] at hw; rcases hw with rfl <;> rfl) (by decide) ?_
        refine wx_M_isDrain_37 M x4 ?_
        show WX mi_M_freeBy 4 Q 37 [some (.ref 37), some (.ref 49), some (.int x2), some (.int x3), some (.int x4)] [.int (z_M_isDrain_37 M x4), .int x3] M
        refine WX.if_ne (off := 21) (tgt := 58) rfl rfl (fun c4 => ?_) (fun c4 => ?_)
        · refine WX.run (pc' := 5) (L' := [some (.ref 37), some (.ref 49), some (.int x2), some (.int (x3 ||| 0)), some (.int (x4 + 1))]) (st' := []) (M' := M) (P := True) 5 rfl trivial ?_
          exact (h5 c1 c2 c3 c4)
        · refine WX.run (pc' := 48) (L' := [some (.ref 37), some (.ref 49), some (.int x2), some (.int x3), some (.int x4)]) (st' := [.int (-9), .int (M.1 49 (x2 + x4).toNatClampNeg), .int x3]) (M' := M) (P := (True ∧ vp_in (x2 + x4) 16)) 6 rfl ⟨trivial, (b6 c1 c2 c3 c4)⟩ ?_
          refine WX.icmp_ne (off := 10) (tgt := 58) rfl rfl (fun c5 => ?_) (fun c5 => ?_)
          · refine WX.run (pc' := 5) (L' := [some (.ref 37), some (.ref 49), some (.int x2), some (.int (x3 ||| 0)), some (.int (x4 + 1))]) (st' := []) (M' := M) (P := True) 5 rfl trivial ?_
            exact (h7 c1 c2 c3 c4 c5)
          · refine WX.run (pc' := 5) (L' := [some (.ref 37), some (.ref 49), some (.int x2), some (.int (x3 ||| (shl 1 x4))), some (.int (x4 + 1))]) (st' := []) (M' := M) (P := True) 8 rfl trivial ?_
            exact (h8 c1 c2 c3 c4 c5)
theorem sg_M_crosses_37_49_0 {Q : Option Value → Mem → Prop} (M : Mem) (x2 : Int32)
    (h1 : WX mi_M_crosses 4 Q 5 [some (.ref 37), some (.ref 49), some (.int x2), some (.int 0), some (.int 0), none] [] M) :
    WX mi_M_crosses 4 Q 0 [some (.ref 37), some (.ref 49), some (.int x2), none, none, none] [] M := by
  refine WX.run (pc' := 5) (L' := [some (.ref 37), some (.ref 49), some (.int x2), some (.int 0), some (.int 0), none]) (st' := []) (M' := M) (P := True) 4 rfl trivial ?_
  exact h1
theorem sg_M_crosses_37_49_5 {Q : Option Value → Mem → Prop} (M : Mem) (x2 x3 x4 : Int32)
    (h1 : 16 ≤ x4 → Q (some (.int x3)) M)
    (b2 : ¬ 16 ≤ x4 → ((z_M_isCell_37 M (rem x4 4) (x4 / 4)) = 0 ∨ (z_M_isCell_37 M (rem x4 4) (x4 / 4)) = 1))
    (h3 : ¬ 16 ≤ x4 → (z_M_isThere_37 M x4) = 0 → WX mi_M_crosses 4 Q 5 [some (.ref 37), some (.ref 49), some (.int x2), some (.int x3), some (.int (x4 + 1)), none] [] M)
    (h4 : ¬ 16 ≤ x4 → ¬ (z_M_isThere_37 M x4) = 0 → (z_M_isCell_37 M ((rem x4 4) + 1) ((x4 / 4) + 1)) = 0 → WX mi_M_crosses 4 Q 5 [some (.ref 37), some (.ref 49), some (.int x2), some (.int x3), some (.int (x4 + 1)), none] [] M)
    (b5 : ¬ 16 ≤ x4 → ¬ (z_M_isThere_37 M x4) = 0 → ¬ (z_M_isCell_37 M ((rem x4 4) + 1) ((x4 / 4) + 1)) = 0 → vp_in (x2 + x4) 16)
    (b6 : ¬ 16 ≤ x4 → ¬ (z_M_isThere_37 M x4) = 0 → ¬ (z_M_isCell_37 M ((rem x4 4) + 1) ((x4 / 4) + 1)) = 0 → ¬ (M.1 49 (x2 + x4).toNatClampNeg) = (-9) → vp_in (x2 + (x4 + 1)) 16)
    (b7 : ¬ 16 ≤ x4 → ¬ (z_M_isThere_37 M x4) = 0 → ¬ (z_M_isCell_37 M ((rem x4 4) + 1) ((x4 / 4) + 1)) = 0 → ¬ (M.1 49 (x2 + x4).toNatClampNeg) = (-9) → ¬ (M.1 49 (x2 + (x4 + 1)).toNatClampNeg) = (-9) → vp_in (x2 + x4) 16)
    (b8 : ¬ 16 ≤ x4 → ¬ (z_M_isThere_37 M x4) = 0 → ¬ (z_M_isCell_37 M ((rem x4 4) + 1) ((x4 / 4) + 1)) = 0 → ¬ (M.1 49 (x2 + x4).toNatClampNeg) = (-9) → ¬ (M.1 49 (x2 + (x4 + 1)).toNatClampNeg) = (-9) → vp_in (x2 + (x4 + 1)) 16)
    (h9 : ¬ 16 ≤ x4 → ¬ (z_M_isThere_37 M x4) = 0 → ¬ (z_M_isCell_37 M ((rem x4 4) + 1) ((x4 / 4) + 1)) = 0 → (z_M_part_49 M x2 x4 (x4 + 1)) = 0 → 0 = 0 → 0 = 0 → WX mi_M_crosses 4 Q 5 [some (.ref 37), some (.ref 49), some (.int x2), some (.int (x3 + 0)), some (.int (x4 + 1)), none] [] M)
    (h10 : ¬ 16 ≤ x4 → ¬ (z_M_isThere_37 M x4) = 0 → ¬ (z_M_isCell_37 M ((rem x4 4) + 1) ((x4 / 4) + 1)) = 0 → (z_M_part_49 M x2 x4 (x4 + 1)) = 0 → 0 = 0 → ¬ 0 = 0 → WX mi_M_crosses 4 Q 5 [some (.ref 37), some (.ref 49), some (.int x2), some (.int (x3 + 1)), some (.int (x4 + 1)), none] [] M)
    (b11 : ¬ 16 ≤ x4 → ¬ (z_M_isThere_37 M x4) = 0 → ¬ (z_M_isCell_37 M ((rem x4 4) + 1) ((x4 / 4) + 1)) = 0 → (z_M_part_49 M x2 x4 (x4 + 1)) = 0 → ¬ 0 = 0 → vp_in (x2 + (x4 + 1)) 16)
    (b12 : ¬ 16 ≤ x4 → ¬ (z_M_isThere_37 M x4) = 0 → ¬ (z_M_isCell_37 M ((rem x4 4) + 1) ((x4 / 4) + 1)) = 0 → (z_M_part_49 M x2 x4 (x4 + 1)) = 0 → ¬ 0 = 0 → ¬ (M.1 49 (x2 + (x4 + 1)).toNatClampNeg) = (-9) → vp_in (x2 + (x4 + 4)) 16)
    (b13 : ¬ 16 ≤ x4 → ¬ (z_M_isThere_37 M x4) = 0 → ¬ (z_M_isCell_37 M ((rem x4 4) + 1) ((x4 / 4) + 1)) = 0 → (z_M_part_49 M x2 x4 (x4 + 1)) = 0 → ¬ 0 = 0 → ¬ (M.1 49 (x2 + (x4 + 1)).toNatClampNeg) = (-9) → ¬ (M.1 49 (x2 + (x4 + 4)).toNatClampNeg) = (-9) → vp_in (x2 + (x4 + 1)) 16)
    (b14 : ¬ 16 ≤ x4 → ¬ (z_M_isThere_37 M x4) = 0 → ¬ (z_M_isCell_37 M ((rem x4 4) + 1) ((x4 / 4) + 1)) = 0 → (z_M_part_49 M x2 x4 (x4 + 1)) = 0 → ¬ 0 = 0 → ¬ (M.1 49 (x2 + (x4 + 1)).toNatClampNeg) = (-9) → ¬ (M.1 49 (x2 + (x4 + 4)).toNatClampNeg) = (-9) → vp_in (x2 + (x4 + 4)) 16)
    (h15 : ¬ 16 ≤ x4 → ¬ (z_M_isThere_37 M x4) = 0 → ¬ (z_M_isCell_37 M ((rem x4 4) + 1) ((x4 / 4) + 1)) = 0 → (z_M_part_49 M x2 x4 (x4 + 1)) = 0 → ¬ 0 = 0 → (z_M_part_49 M x2 (x4 + 1) (x4 + 4)) = 0 → 0 = 0 → WX mi_M_crosses 4 Q 5 [some (.ref 37), some (.ref 49), some (.int x2), some (.int (x3 + 0)), some (.int (x4 + 1)), none] [] M)
    (h16 : ¬ 16 ≤ x4 → ¬ (z_M_isThere_37 M x4) = 0 → ¬ (z_M_isCell_37 M ((rem x4 4) + 1) ((x4 / 4) + 1)) = 0 → (z_M_part_49 M x2 x4 (x4 + 1)) = 0 → ¬ 0 = 0 → (z_M_part_49 M x2 (x4 + 1) (x4 + 4)) = 0 → ¬ 0 = 0 → WX mi_M_crosses 4 Q 5 [some (.ref 37), some (.ref 49), some (.int x2), some (.int (x3 + 1)), some (.int (x4 + 1)), none] [] M)
    (b17 : ¬ 16 ≤ x4 → ¬ (z_M_isThere_37 M x4) = 0 → ¬ (z_M_isCell_37 M ((rem x4 4) + 1) ((x4 / 4) + 1)) = 0 → (z_M_part_49 M x2 x4 (x4 + 1)) = 0 → ¬ 0 = 0 → ¬ (z_M_part_49 M x2 (x4 + 1) (x4 + 4)) = 0 → vp_in (x2 + (x4 + 1)) 16)
    (b18 : ¬ 16 ≤ x4 → ¬ (z_M_isThere_37 M x4) = 0 → ¬ (z_M_isCell_37 M ((rem x4 4) + 1) ((x4 / 4) + 1)) = 0 → (z_M_part_49 M x2 x4 (x4 + 1)) = 0 → ¬ 0 = 0 → ¬ (z_M_part_49 M x2 (x4 + 1) (x4 + 4)) = 0 → ¬ (M.1 49 (x2 + (x4 + 1)).toNatClampNeg) = (-9) → vp_in (x2 + ((x4 + 4) + 1)) 16)
    (b19 : ¬ 16 ≤ x4 → ¬ (z_M_isThere_37 M x4) = 0 → ¬ (z_M_isCell_37 M ((rem x4 4) + 1) ((x4 / 4) + 1)) = 0 → (z_M_part_49 M x2 x4 (x4 + 1)) = 0 → ¬ 0 = 0 → ¬ (z_M_part_49 M x2 (x4 + 1) (x4 + 4)) = 0 → ¬ (M.1 49 (x2 + (x4 + 1)).toNatClampNeg) = (-9) → ¬ (M.1 49 (x2 + ((x4 + 4) + 1)).toNatClampNeg) = (-9) → vp_in (x2 + (x4 + 1)) 16)
    (b20 : ¬ 16 ≤ x4 → ¬ (z_M_isThere_37 M x4) = 0 → ¬ (z_M_isCell_37 M ((rem x4 4) + 1) ((x4 / 4) + 1)) = 0 → (z_M_part_49 M x2 x4 (x4 + 1)) = 0 → ¬ 0 = 0 → ¬ (z_M_part_49 M x2 (x4 + 1) (x4 + 4)) = 0 → ¬ (M.1 49 (x2 + (x4 + 1)).toNatClampNeg) = (-9) → ¬ (M.1 49 (x2 + ((x4 + 4) + 1)).toNatClampNeg) = (-9) → vp_in (x2 + ((x4 + 4) + 1)) 16)
    (h21 : ¬ 16 ≤ x4 → ¬ (z_M_isThere_37 M x4) = 0 → ¬ (z_M_isCell_37 M ((rem x4 4) + 1) ((x4 / 4) + 1)) = 0 → (z_M_part_49 M x2 x4 (x4 + 1)) = 0 → ¬ 0 = 0 → ¬ (z_M_part_49 M x2 (x4 + 1) (x4 + 4)) = 0 → (z_M_part_49 M x2 (x4 + 1) ((x4 + 4) + 1)) = 0 → 0 = 0 → WX mi_M_crosses 4 Q 5 [some (.ref 37), some (.ref 49), some (.int x2), some (.int (x3 + 0)), some (.int (x4 + 1)), none] [] M)
    (h22 : ¬ 16 ≤ x4 → ¬ (z_M_isThere_37 M x4) = 0 → ¬ (z_M_isCell_37 M ((rem x4 4) + 1) ((x4 / 4) + 1)) = 0 → (z_M_part_49 M x2 x4 (x4 + 1)) = 0 → ¬ 0 = 0 → ¬ (z_M_part_49 M x2 (x4 + 1) (x4 + 4)) = 0 → (z_M_part_49 M x2 (x4 + 1) ((x4 + 4) + 1)) = 0 → ¬ 0 = 0 → WX mi_M_crosses 4 Q 5 [some (.ref 37), some (.ref 49), some (.int x2), some (.int (x3 + 1)), some (.int (x4 + 1)), none] [] M)
    (b23 : ¬ 16 ≤ x4 → ¬ (z_M_isThere_37 M x4) = 0 → ¬ (z_M_isCell_37 M ((rem x4 4) + 1) ((x4 / 4) + 1)) = 0 → (z_M_part_49 M x2 x4 (x4 + 1)) = 0 → ¬ 0 = 0 → ¬ (z_M_part_49 M x2 (x4 + 1) (x4 + 4)) = 0 → ¬ (z_M_part_49 M x2 (x4 + 1) ((x4 + 4) + 1)) = 0 → vp_in (x2 + (x4 + 4)) 16)
    (b24 : ¬ 16 ≤ x4 → ¬ (z_M_isThere_37 M x4) = 0 → ¬ (z_M_isCell_37 M ((rem x4 4) + 1) ((x4 / 4) + 1)) = 0 → (z_M_part_49 M x2 x4 (x4 + 1)) = 0 → ¬ 0 = 0 → ¬ (z_M_part_49 M x2 (x4 + 1) (x4 + 4)) = 0 → ¬ (z_M_part_49 M x2 (x4 + 1) ((x4 + 4) + 1)) = 0 → ¬ (M.1 49 (x2 + (x4 + 4)).toNatClampNeg) = (-9) → vp_in (x2 + ((x4 + 4) + 1)) 16)
    (b25 : ¬ 16 ≤ x4 → ¬ (z_M_isThere_37 M x4) = 0 → ¬ (z_M_isCell_37 M ((rem x4 4) + 1) ((x4 / 4) + 1)) = 0 → (z_M_part_49 M x2 x4 (x4 + 1)) = 0 → ¬ 0 = 0 → ¬ (z_M_part_49 M x2 (x4 + 1) (x4 + 4)) = 0 → ¬ (z_M_part_49 M x2 (x4 + 1) ((x4 + 4) + 1)) = 0 → ¬ (M.1 49 (x2 + (x4 + 4)).toNatClampNeg) = (-9) → ¬ (M.1 49 (x2 + ((x4 + 4) + 1)).toNatClampNeg) = (-9) → vp_in (x2 + (x4 + 4)) 16)
    (b26 : ¬ 16 ≤ x4 → ¬ (z_M_isThere_37 M x4) = 0 → ¬ (z_M_isCell_37 M ((rem x4 4) + 1) ((x4 / 4) + 1)) = 0 → (z_M_part_49 M x2 x4 (x4 + 1)) = 0 → ¬ 0 = 0 → ¬ (z_M_part_49 M x2 (x4 + 1) (x4 + 4)) = 0 → ¬ (z_M_part_49 M x2 (x4 + 1) ((x4 + 4) + 1)) = 0 → ¬ (M.1 49 (x2 + (x4 + 4)).toNatClampNeg) = (-9) → ¬ (M.1 49 (x2 + ((x4 + 4) + 1)).toNatClampNeg) = (-9) → vp_in (x2 + ((x4 + 4) + 1)) 16)
    (h27 : ¬ 16 ≤ x4 → ¬ (z_M_isThere_37 M x4) = 0 → ¬ (z_M_isCell_37 M ((rem x4 4) + 1) ((x4 / 4) + 1)) = 0 → (z_M_part_49 M x2 x4 (x4 + 1)) = 0 → ¬ 0 = 0 → ¬ (z_M_part_49 M x2 (x4 + 1) (x4 + 4)) = 0 → ¬ (z_M_part_49 M x2 (x4 + 1) ((x4 + 4) + 1)) = 0 → (z_M_part_49 M x2 (x4 + 4) ((x4 + 4) + 1)) = 0 → 0 = 0 → WX mi_M_crosses 4 Q 5 [some (.ref 37), some (.ref 49), some (.int x2), some (.int (x3 + 0)), some (.int (x4 + 1)), none] [] M)
    (h28 : ¬ 16 ≤ x4 → ¬ (z_M_isThere_37 M x4) = 0 → ¬ (z_M_isCell_37 M ((rem x4 4) + 1) ((x4 / 4) + 1)) = 0 → (z_M_part_49 M x2 x4 (x4 + 1)) = 0 → ¬ 0 = 0 → ¬ (z_M_part_49 M x2 (x4 + 1) (x4 + 4)) = 0 → ¬ (z_M_part_49 M x2 (x4 + 1) ((x4 + 4) + 1)) = 0 → (z_M_part_49 M x2 (x4 + 4) ((x4 + 4) + 1)) = 0 → ¬ 0 = 0 → WX mi_M_crosses 4 Q 5 [some (.ref 37), some (.ref 49), some (.int x2), some (.int (x3 + 1)), some (.int (x4 + 1)), none] [] M)
    (h29 : ¬ 16 ≤ x4 → ¬ (z_M_isThere_37 M x4) = 0 → ¬ (z_M_isCell_37 M ((rem x4 4) + 1) ((x4 / 4) + 1)) = 0 → (z_M_part_49 M x2 x4 (x4 + 1)) = 0 → ¬ 0 = 0 → ¬ (z_M_part_49 M x2 (x4 + 1) (x4 + 4)) = 0 → ¬ (z_M_part_49 M x2 (x4 + 1) ((x4 + 4) + 1)) = 0 → ¬ (z_M_part_49 M x2 (x4 + 4) ((x4 + 4) + 1)) = 0 → 1 = 0 → WX mi_M_crosses 4 Q 5 [some (.ref 37), some (.ref 49), some (.int x2), some (.int (x3 + 0)), some (.int (x4 + 1)), none] [] M)
    (h30 : ¬ 16 ≤ x4 → ¬ (z_M_isThere_37 M x4) = 0 → ¬ (z_M_isCell_37 M ((rem x4 4) + 1) ((x4 / 4) + 1)) = 0 → (z_M_part_49 M x2 x4 (x4 + 1)) = 0 → ¬ 0 = 0 → ¬ (z_M_part_49 M x2 (x4 + 1) (x4 + 4)) = 0 → ¬ (z_M_part_49 M x2 (x4 + 1) ((x4 + 4) + 1)) = 0 → ¬ (z_M_part_49 M x2 (x4 + 4) ((x4 + 4) + 1)) = 0 → ¬ 1 = 0 → WX mi_M_crosses 4 Q 5 [some (.ref 37), some (.ref 49), some (.int x2), some (.int (x3 + 1)), some (.int (x4 + 1)), none] [] M)
    (b31 : ¬ 16 ≤ x4 → ¬ (z_M_isThere_37 M x4) = 0 → ¬ (z_M_isCell_37 M ((rem x4 4) + 1) ((x4 / 4) + 1)) = 0 → ¬ (z_M_part_49 M x2 x4 (x4 + 1)) = 0 → vp_in (x2 + x4) 16)
    (b32 : ¬ 16 ≤ x4 → ¬ (z_M_isThere_37 M x4) = 0 → ¬ (z_M_isCell_37 M ((rem x4 4) + 1) ((x4 / 4) + 1)) = 0 → ¬ (z_M_part_49 M x2 x4 (x4 + 1)) = 0 → ¬ (M.1 49 (x2 + x4).toNatClampNeg) = (-9) → vp_in (x2 + (x4 + 4)) 16)
    (b33 : ¬ 16 ≤ x4 → ¬ (z_M_isThere_37 M x4) = 0 → ¬ (z_M_isCell_37 M ((rem x4 4) + 1) ((x4 / 4) + 1)) = 0 → ¬ (z_M_part_49 M x2 x4 (x4 + 1)) = 0 → ¬ (M.1 49 (x2 + x4).toNatClampNeg) = (-9) → ¬ (M.1 49 (x2 + (x4 + 4)).toNatClampNeg) = (-9) → vp_in (x2 + x4) 16)
    (b34 : ¬ 16 ≤ x4 → ¬ (z_M_isThere_37 M x4) = 0 → ¬ (z_M_isCell_37 M ((rem x4 4) + 1) ((x4 / 4) + 1)) = 0 → ¬ (z_M_part_49 M x2 x4 (x4 + 1)) = 0 → ¬ (M.1 49 (x2 + x4).toNatClampNeg) = (-9) → ¬ (M.1 49 (x2 + (x4 + 4)).toNatClampNeg) = (-9) → vp_in (x2 + (x4 + 4)) 16)
    (h35 : ¬ 16 ≤ x4 → ¬ (z_M_isThere_37 M x4) = 0 → ¬ (z_M_isCell_37 M ((rem x4 4) + 1) ((x4 / 4) + 1)) = 0 → ¬ (z_M_part_49 M x2 x4 (x4 + 1)) = 0 → (z_M_part_49 M x2 x4 (x4 + 4)) = 0 → 0 = 0 → 0 = 0 → WX mi_M_crosses 4 Q 5 [some (.ref 37), some (.ref 49), some (.int x2), some (.int (x3 + 0)), some (.int (x4 + 1)), none] [] M)
    (h36 : ¬ 16 ≤ x4 → ¬ (z_M_isThere_37 M x4) = 0 → ¬ (z_M_isCell_37 M ((rem x4 4) + 1) ((x4 / 4) + 1)) = 0 → ¬ (z_M_part_49 M x2 x4 (x4 + 1)) = 0 → (z_M_part_49 M x2 x4 (x4 + 4)) = 0 → 0 = 0 → ¬ 0 = 0 → WX mi_M_crosses 4 Q 5 [some (.ref 37), some (.ref 49), some (.int x2), some (.int (x3 + 1)), some (.int (x4 + 1)), none] [] M)
    (b37 : ¬ 16 ≤ x4 → ¬ (z_M_isThere_37 M x4) = 0 → ¬ (z_M_isCell_37 M ((rem x4 4) + 1) ((x4 / 4) + 1)) = 0 → ¬ (z_M_part_49 M x2 x4 (x4 + 1)) = 0 → (z_M_part_49 M x2 x4 (x4 + 4)) = 0 → ¬ 0 = 0 → vp_in (x2 + (x4 + 1)) 16)
    (b38 : ¬ 16 ≤ x4 → ¬ (z_M_isThere_37 M x4) = 0 → ¬ (z_M_isCell_37 M ((rem x4 4) + 1) ((x4 / 4) + 1)) = 0 → ¬ (z_M_part_49 M x2 x4 (x4 + 1)) = 0 → (z_M_part_49 M x2 x4 (x4 + 4)) = 0 → ¬ 0 = 0 → ¬ (M.1 49 (x2 + (x4 + 1)).toNatClampNeg) = (-9) → vp_in (x2 + (x4 + 4)) 16)
    (b39 : ¬ 16 ≤ x4 → ¬ (z_M_isThere_37 M x4) = 0 → ¬ (z_M_isCell_37 M ((rem x4 4) + 1) ((x4 / 4) + 1)) = 0 → ¬ (z_M_part_49 M x2 x4 (x4 + 1)) = 0 → (z_M_part_49 M x2 x4 (x4 + 4)) = 0 → ¬ 0 = 0 → ¬ (M.1 49 (x2 + (x4 + 1)).toNatClampNeg) = (-9) → ¬ (M.1 49 (x2 + (x4 + 4)).toNatClampNeg) = (-9) → vp_in (x2 + (x4 + 1)) 16)
    (b40 : ¬ 16 ≤ x4 → ¬ (z_M_isThere_37 M x4) = 0 → ¬ (z_M_isCell_37 M ((rem x4 4) + 1) ((x4 / 4) + 1)) = 0 → ¬ (z_M_part_49 M x2 x4 (x4 + 1)) = 0 → (z_M_part_49 M x2 x4 (x4 + 4)) = 0 → ¬ 0 = 0 → ¬ (M.1 49 (x2 + (x4 + 1)).toNatClampNeg) = (-9) → ¬ (M.1 49 (x2 + (x4 + 4)).toNatClampNeg) = (-9) → vp_in (x2 + (x4 + 4)) 16)
    (h41 : ¬ 16 ≤ x4 → ¬ (z_M_isThere_37 M x4) = 0 → ¬ (z_M_isCell_37 M ((rem x4 4) + 1) ((x4 / 4) + 1)) = 0 → ¬ (z_M_part_49 M x2 x4 (x4 + 1)) = 0 → (z_M_part_49 M x2 x4 (x4 + 4)) = 0 → ¬ 0 = 0 → (z_M_part_49 M x2 (x4 + 1) (x4 + 4)) = 0 → 0 = 0 → WX mi_M_crosses 4 Q 5 [some (.ref 37), some (.ref 49), some (.int x2), some (.int (x3 + 0)), some (.int (x4 + 1)), none] [] M)
    (h42 : ¬ 16 ≤ x4 → ¬ (z_M_isThere_37 M x4) = 0 → ¬ (z_M_isCell_37 M ((rem x4 4) + 1) ((x4 / 4) + 1)) = 0 → ¬ (z_M_part_49 M x2 x4 (x4 + 1)) = 0 → (z_M_part_49 M x2 x4 (x4 + 4)) = 0 → ¬ 0 = 0 → (z_M_part_49 M x2 (x4 + 1) (x4 + 4)) = 0 → ¬ 0 = 0 → WX mi_M_crosses 4 Q 5 [some (.ref 37), some (.ref 49), some (.int x2), some (.int (x3 + 1)), some (.int (x4 + 1)), none] [] M)
    (b43 : ¬ 16 ≤ x4 → ¬ (z_M_isThere_37 M x4) = 0 → ¬ (z_M_isCell_37 M ((rem x4 4) + 1) ((x4 / 4) + 1)) = 0 → ¬ (z_M_part_49 M x2 x4 (x4 + 1)) = 0 → (z_M_part_49 M x2 x4 (x4 + 4)) = 0 → ¬ 0 = 0 → ¬ (z_M_part_49 M x2 (x4 + 1) (x4 + 4)) = 0 → vp_in (x2 + (x4 + 1)) 16)
    (b44 : ¬ 16 ≤ x4 → ¬ (z_M_isThere_37 M x4) = 0 → ¬ (z_M_isCell_37 M ((rem x4 4) + 1) ((x4 / 4) + 1)) = 0 → ¬ (z_M_part_49 M x2 x4 (x4 + 1)) = 0 → (z_M_part_49 M x2 x4 (x4 + 4)) = 0 → ¬ 0 = 0 → ¬ (z_M_part_49 M x2 (x4 + 1) (x4 + 4)) = 0 → ¬ (M.1 49 (x2 + (x4 + 1)).toNatClampNeg) = (-9) → vp_in (x2 + ((x4 + 4) + 1)) 16)
    (b45 : ¬ 16 ≤ x4 → ¬ (z_M_isThere_37 M x4) = 0 → ¬ (z_M_isCell_37 M ((rem x4 4) + 1) ((x4 / 4) + 1)) = 0 → ¬ (z_M_part_49 M x2 x4 (x4 + 1)) = 0 → (z_M_part_49 M x2 x4 (x4 + 4)) = 0 → ¬ 0 = 0 → ¬ (z_M_part_49 M x2 (x4 + 1) (x4 + 4)) = 0 → ¬ (M.1 49 (x2 + (x4 + 1)).toNatClampNeg) = (-9) → ¬ (M.1 49 (x2 + ((x4 + 4) + 1)).toNatClampNeg) = (-9) → vp_in (x2 + (x4 + 1)) 16)
    (b46 : ¬ 16 ≤ x4 → ¬ (z_M_isThere_37 M x4) = 0 → ¬ (z_M_isCell_37 M ((rem x4 4) + 1) ((x4 / 4) + 1)) = 0 → ¬ (z_M_part_49 M x2 x4 (x4 + 1)) = 0 → (z_M_part_49 M x2 x4 (x4 + 4)) = 0 → ¬ 0 = 0 → ¬ (z_M_part_49 M x2 (x4 + 1) (x4 + 4)) = 0 → ¬ (M.1 49 (x2 + (x4 + 1)).toNatClampNeg) = (-9) → ¬ (M.1 49 (x2 + ((x4 + 4) + 1)).toNatClampNeg) = (-9) → vp_in (x2 + ((x4 + 4) + 1)) 16)
    (h47 : ¬ 16 ≤ x4 → ¬ (z_M_isThere_37 M x4) = 0 → ¬ (z_M_isCell_37 M ((rem x4 4) + 1) ((x4 / 4) + 1)) = 0 → ¬ (z_M_part_49 M x2 x4 (x4 + 1)) = 0 → (z_M_part_49 M x2 x4 (x4 + 4)) = 0 → ¬ 0 = 0 → ¬ (z_M_part_49 M x2 (x4 + 1) (x4 + 4)) = 0 → (z_M_part_49 M x2 (x4 + 1) ((x4 + 4) + 1)) = 0 → 0 = 0 → WX mi_M_crosses 4 Q 5 [some (.ref 37), some (.ref 49), some (.int x2), some (.int (x3 + 0)), some (.int (x4 + 1)), none] [] M)
    (h48 : ¬ 16 ≤ x4 → ¬ (z_M_isThere_37 M x4) = 0 → ¬ (z_M_isCell_37 M ((rem x4 4) + 1) ((x4 / 4) + 1)) = 0 → ¬ (z_M_part_49 M x2 x4 (x4 + 1)) = 0 → (z_M_part_49 M x2 x4 (x4 + 4)) = 0 → ¬ 0 = 0 → ¬ (z_M_part_49 M x2 (x4 + 1) (x4 + 4)) = 0 → (z_M_part_49 M x2 (x4 + 1) ((x4 + 4) + 1)) = 0 → ¬ 0 = 0 → WX mi_M_crosses 4 Q 5 [some (.ref 37), some (.ref 49), some (.int x2), some (.int (x3 + 1)), some (.int (x4 + 1)), none] [] M)
    (b49 : ¬ 16 ≤ x4 → ¬ (z_M_isThere_37 M x4) = 0 → ¬ (z_M_isCell_37 M ((rem x4 4) + 1) ((x4 / 4) + 1)) = 0 → ¬ (z_M_part_49 M x2 x4 (x4 + 1)) = 0 → (z_M_part_49 M x2 x4 (x4 + 4)) = 0 → ¬ 0 = 0 → ¬ (z_M_part_49 M x2 (x4 + 1) (x4 + 4)) = 0 → ¬ (z_M_part_49 M x2 (x4 + 1) ((x4 + 4) + 1)) = 0 → vp_in (x2 + (x4 + 4)) 16)
    (b50 : ¬ 16 ≤ x4 → ¬ (z_M_isThere_37 M x4) = 0 → ¬ (z_M_isCell_37 M ((rem x4 4) + 1) ((x4 / 4) + 1)) = 0 → ¬ (z_M_part_49 M x2 x4 (x4 + 1)) = 0 → (z_M_part_49 M x2 x4 (x4 + 4)) = 0 → ¬ 0 = 0 → ¬ (z_M_part_49 M x2 (x4 + 1) (x4 + 4)) = 0 → ¬ (z_M_part_49 M x2 (x4 + 1) ((x4 + 4) + 1)) = 0 → ¬ (M.1 49 (x2 + (x4 + 4)).toNatClampNeg) = (-9) → vp_in (x2 + ((x4 + 4) + 1)) 16)
    (b51 : ¬ 16 ≤ x4 → ¬ (z_M_isThere_37 M x4) = 0 → ¬ (z_M_isCell_37 M ((rem x4 4) + 1) ((x4 / 4) + 1)) = 0 → ¬ (z_M_part_49 M x2 x4 (x4 + 1)) = 0 → (z_M_part_49 M x2 x4 (x4 + 4)) = 0 → ¬ 0 = 0 → ¬ (z_M_part_49 M x2 (x4 + 1) (x4 + 4)) = 0 → ¬ (z_M_part_49 M x2 (x4 + 1) ((x4 + 4) + 1)) = 0 → ¬ (M.1 49 (x2 + (x4 + 4)).toNatClampNeg) = (-9) → ¬ (M.1 49 (x2 + ((x4 + 4) + 1)).toNatClampNeg) = (-9) → vp_in (x2 + (x4 + 4)) 16)
    (b52 : ¬ 16 ≤ x4 → ¬ (z_M_isThere_37 M x4) = 0 → ¬ (z_M_isCell_37 M ((rem x4 4) + 1) ((x4 / 4) + 1)) = 0 → ¬ (z_M_part_49 M x2 x4 (x4 + 1)) = 0 → (z_M_part_49 M x2 x4 (x4 + 4)) = 0 → ¬ 0 = 0 → ¬ (z_M_part_49 M x2 (x4 + 1) (x4 + 4)) = 0 → ¬ (z_M_part_49 M x2 (x4 + 1) ((x4 + 4) + 1)) = 0 → ¬ (M.1 49 (x2 + (x4 + 4)).toNatClampNeg) = (-9) → ¬ (M.1 49 (x2 + ((x4 + 4) + 1)).toNatClampNeg) = (-9) → vp_in (x2 + ((x4 + 4) + 1)) 16)
    (h53 : ¬ 16 ≤ x4 → ¬ (z_M_isThere_37 M x4) = 0 → ¬ (z_M_isCell_37 M ((rem x4 4) + 1) ((x4 / 4) + 1)) = 0 → ¬ (z_M_part_49 M x2 x4 (x4 + 1)) = 0 → (z_M_part_49 M x2 x4 (x4 + 4)) = 0 → ¬ 0 = 0 → ¬ (z_M_part_49 M x2 (x4 + 1) (x4 + 4)) = 0 → ¬ (z_M_part_49 M x2 (x4 + 1) ((x4 + 4) + 1)) = 0 → (z_M_part_49 M x2 (x4 + 4) ((x4 + 4) + 1)) = 0 → 0 = 0 → WX mi_M_crosses 4 Q 5 [some (.ref 37), some (.ref 49), some (.int x2), some (.int (x3 + 0)), some (.int (x4 + 1)), none] [] M)
    (h54 : ¬ 16 ≤ x4 → ¬ (z_M_isThere_37 M x4) = 0 → ¬ (z_M_isCell_37 M ((rem x4 4) + 1) ((x4 / 4) + 1)) = 0 → ¬ (z_M_part_49 M x2 x4 (x4 + 1)) = 0 → (z_M_part_49 M x2 x4 (x4 + 4)) = 0 → ¬ 0 = 0 → ¬ (z_M_part_49 M x2 (x4 + 1) (x4 + 4)) = 0 → ¬ (z_M_part_49 M x2 (x4 + 1) ((x4 + 4) + 1)) = 0 → (z_M_part_49 M x2 (x4 + 4) ((x4 + 4) + 1)) = 0 → ¬ 0 = 0 → WX mi_M_crosses 4 Q 5 [some (.ref 37), some (.ref 49), some (.int x2), some (.int (x3 + 1)), some (.int (x4 + 1)), none] [] M)
    (h55 : ¬ 16 ≤ x4 → ¬ (z_M_isThere_37 M x4) = 0 → ¬ (z_M_isCell_37 M ((rem x4 4) + 1) ((x4 / 4) + 1)) = 0 → ¬ (z_M_part_49 M x2 x4 (x4 + 1)) = 0 → (z_M_part_49 M x2 x4 (x4 + 4)) = 0 → ¬ 0 = 0 → ¬ (z_M_part_49 M x2 (x4 + 1) (x4 + 4)) = 0 → ¬ (z_M_part_49 M x2 (x4 + 1) ((x4 + 4) + 1)) = 0 → ¬ (z_M_part_49 M x2 (x4 + 4) ((x4 + 4) + 1)) = 0 → 1 = 0 → WX mi_M_crosses 4 Q 5 [some (.ref 37), some (.ref 49), some (.int x2), some (.int (x3 + 0)), some (.int (x4 + 1)), none] [] M)
    (h56 : ¬ 16 ≤ x4 → ¬ (z_M_isThere_37 M x4) = 0 → ¬ (z_M_isCell_37 M ((rem x4 4) + 1) ((x4 / 4) + 1)) = 0 → ¬ (z_M_part_49 M x2 x4 (x4 + 1)) = 0 → (z_M_part_49 M x2 x4 (x4 + 4)) = 0 → ¬ 0 = 0 → ¬ (z_M_part_49 M x2 (x4 + 1) (x4 + 4)) = 0 → ¬ (z_M_part_49 M x2 (x4 + 1) ((x4 + 4) + 1)) = 0 → ¬ (z_M_part_49 M x2 (x4 + 4) ((x4 + 4) + 1)) = 0 → ¬ 1 = 0 → WX mi_M_crosses 4 Q 5 [some (.ref 37), some (.ref 49), some (.int x2), some (.int (x3 + 1)), some (.int (x4 + 1)), none] [] M)
    (b57 : ¬ 16 ≤ x4 → ¬ (z_M_isThere_37 M x4) = 0 → ¬ (z_M_isCell_37 M ((rem x4 4) + 1) ((x4 / 4) + 1)) = 0 → ¬ (z_M_part_49 M x2 x4 (x4 + 1)) = 0 → ¬ (z_M_part_49 M x2 x4 (x4 + 4)) = 0 → vp_in (x2 + x4) 16)
    (b58 : ¬ 16 ≤ x4 → ¬ (z_M_isThere_37 M x4) = 0 → ¬ (z_M_isCell_37 M ((rem x4 4) + 1) ((x4 / 4) + 1)) = 0 → ¬ (z_M_part_49 M x2 x4 (x4 + 1)) = 0 → ¬ (z_M_part_49 M x2 x4 (x4 + 4)) = 0 → ¬ (M.1 49 (x2 + x4).toNatClampNeg) = (-9) → vp_in (x2 + ((x4 + 4) + 1)) 16)
    (b59 : ¬ 16 ≤ x4 → ¬ (z_M_isThere_37 M x4) = 0 → ¬ (z_M_isCell_37 M ((rem x4 4) + 1) ((x4 / 4) + 1)) = 0 → ¬ (z_M_part_49 M x2 x4 (x4 + 1)) = 0 → ¬ (z_M_part_49 M x2 x4 (x4 + 4)) = 0 → ¬ (M.1 49 (x2 + x4).toNatClampNeg) = (-9) → ¬ (M.1 49 (x2 + ((x4 + 4) + 1)).toNatClampNeg) = (-9) → vp_in (x2 + x4) 16)
    (b60 : ¬ 16 ≤ x4 → ¬ (z_M_isThere_37 M x4) = 0 → ¬ (z_M_isCell_37 M ((rem x4 4) + 1) ((x4 / 4) + 1)) = 0 → ¬ (z_M_part_49 M x2 x4 (x4 + 1)) = 0 → ¬ (z_M_part_49 M x2 x4 (x4 + 4)) = 0 → ¬ (M.1 49 (x2 + x4).toNatClampNeg) = (-9) → ¬ (M.1 49 (x2 + ((x4 + 4) + 1)).toNatClampNeg) = (-9) → vp_in (x2 + ((x4 + 4) + 1)) 16)
    (h61 : ¬ 16 ≤ x4 → ¬ (z_M_isThere_37 M x4) = 0 → ¬ (z_M_isCell_37 M ((rem x4 4) + 1) ((x4 / 4) + 1)) = 0 → ¬ (z_M_part_49 M x2 x4 (x4 + 1)) = 0 → ¬ (z_M_part_49 M x2 x4 (x4 + 4)) = 0 → (z_M_part_49 M x2 x4 ((x4 + 4) + 1)) = 0 → 0 = 0 → 0 = 0 → WX mi_M_crosses 4 Q 5 [some (.ref 37), some (.ref 49), some (.int x2), some (.int (x3 + 0)), some (.int (x4 + 1)), none] [] M)
    (h62 : ¬ 16 ≤ x4 → ¬ (z_M_isThere_37 M x4) = 0 → ¬ (z_M_isCell_37 M ((rem x4 4) + 1) ((x4 / 4) + 1)) = 0 → ¬ (z_M_part_49 M x2 x4 (x4 + 1)) = 0 → ¬ (z_M_part_49 M x2 x4 (x4 + 4)) = 0 → (z_M_part_49 M x2 x4 ((x4 + 4) + 1)) = 0 → 0 = 0 → ¬ 0 = 0 → WX mi_M_crosses 4 Q 5 [some (.ref 37), some (.ref 49), some (.int x2), some (.int (x3 + 1)), some (.int (x4 + 1)), none] [] M)
    (b63 : ¬ 16 ≤ x4 → ¬ (z_M_isThere_37 M x4) = 0 → ¬ (z_M_isCell_37 M ((rem x4 4) + 1) ((x4 / 4) + 1)) = 0 → ¬ (z_M_part_49 M x2 x4 (x4 + 1)) = 0 → ¬ (z_M_part_49 M x2 x4 (x4 + 4)) = 0 → (z_M_part_49 M x2 x4 ((x4 + 4) + 1)) = 0 → ¬ 0 = 0 → vp_in (x2 + (x4 + 1)) 16)
    (b64 : ¬ 16 ≤ x4 → ¬ (z_M_isThere_37 M x4) = 0 → ¬ (z_M_isCell_37 M ((rem x4 4) + 1) ((x4 / 4) + 1)) = 0 → ¬ (z_M_part_49 M x2 x4 (x4 + 1)) = 0 → ¬ (z_M_part_49 M x2 x4 (x4 + 4)) = 0 → (z_M_part_49 M x2 x4 ((x4 + 4) + 1)) = 0 → ¬ 0 = 0 → ¬ (M.1 49 (x2 + (x4 + 1)).toNatClampNeg) = (-9) → vp_in (x2 + (x4 + 4)) 16)
    (b65 : ¬ 16 ≤ x4 → ¬ (z_M_isThere_37 M x4) = 0 → ¬ (z_M_isCell_37 M ((rem x4 4) + 1) ((x4 / 4) + 1)) = 0 → ¬ (z_M_part_49 M x2 x4 (x4 + 1)) = 0 → ¬ (z_M_part_49 M x2 x4 (x4 + 4)) = 0 → (z_M_part_49 M x2 x4 ((x4 + 4) + 1)) = 0 → ¬ 0 = 0 → ¬ (M.1 49 (x2 + (x4 + 1)).toNatClampNeg) = (-9) → ¬ (M.1 49 (x2 + (x4 + 4)).toNatClampNeg) = (-9) → vp_in (x2 + (x4 + 1)) 16)
    (b66 : ¬ 16 ≤ x4 → ¬ (z_M_isThere_37 M x4) = 0 → ¬ (z_M_isCell_37 M ((rem x4 4) + 1) ((x4 / 4) + 1)) = 0 → ¬ (z_M_part_49 M x2 x4 (x4 + 1)) = 0 → ¬ (z_M_part_49 M x2 x4 (x4 + 4)) = 0 → (z_M_part_49 M x2 x4 ((x4 + 4) + 1)) = 0 → ¬ 0 = 0 → ¬ (M.1 49 (x2 + (x4 + 1)).toNatClampNeg) = (-9) → ¬ (M.1 49 (x2 + (x4 + 4)).toNatClampNeg) = (-9) → vp_in (x2 + (x4 + 4)) 16)
    (h67 : ¬ 16 ≤ x4 → ¬ (z_M_isThere_37 M x4) = 0 → ¬ (z_M_isCell_37 M ((rem x4 4) + 1) ((x4 / 4) + 1)) = 0 → ¬ (z_M_part_49 M x2 x4 (x4 + 1)) = 0 → ¬ (z_M_part_49 M x2 x4 (x4 + 4)) = 0 → (z_M_part_49 M x2 x4 ((x4 + 4) + 1)) = 0 → ¬ 0 = 0 → (z_M_part_49 M x2 (x4 + 1) (x4 + 4)) = 0 → 0 = 0 → WX mi_M_crosses 4 Q 5 [some (.ref 37), some (.ref 49), some (.int x2), some (.int (x3 + 0)), some (.int (x4 + 1)), none] [] M)
    (h68 : ¬ 16 ≤ x4 → ¬ (z_M_isThere_37 M x4) = 0 → ¬ (z_M_isCell_37 M ((rem x4 4) + 1) ((x4 / 4) + 1)) = 0 → ¬ (z_M_part_49 M x2 x4 (x4 + 1)) = 0 → ¬ (z_M_part_49 M x2 x4 (x4 + 4)) = 0 → (z_M_part_49 M x2 x4 ((x4 + 4) + 1)) = 0 → ¬ 0 = 0 → (z_M_part_49 M x2 (x4 + 1) (x4 + 4)) = 0 → ¬ 0 = 0 → WX mi_M_crosses 4 Q 5 [some (.ref 37), some (.ref 49), some (.int x2), some (.int (x3 + 1)), some (.int (x4 + 1)), none] [] M)
    (b69 : ¬ 16 ≤ x4 → ¬ (z_M_isThere_37 M x4) = 0 → ¬ (z_M_isCell_37 M ((rem x4 4) + 1) ((x4 / 4) + 1)) = 0 → ¬ (z_M_part_49 M x2 x4 (x4 + 1)) = 0 → ¬ (z_M_part_49 M x2 x4 (x4 + 4)) = 0 → (z_M_part_49 M x2 x4 ((x4 + 4) + 1)) = 0 → ¬ 0 = 0 → ¬ (z_M_part_49 M x2 (x4 + 1) (x4 + 4)) = 0 → vp_in (x2 + (x4 + 1)) 16)
    (b70 : ¬ 16 ≤ x4 → ¬ (z_M_isThere_37 M x4) = 0 → ¬ (z_M_isCell_37 M ((rem x4 4) + 1) ((x4 / 4) + 1)) = 0 → ¬ (z_M_part_49 M x2 x4 (x4 + 1)) = 0 → ¬ (z_M_part_49 M x2 x4 (x4 + 4)) = 0 → (z_M_part_49 M x2 x4 ((x4 + 4) + 1)) = 0 → ¬ 0 = 0 → ¬ (z_M_part_49 M x2 (x4 + 1) (x4 + 4)) = 0 → ¬ (M.1 49 (x2 + (x4 + 1)).toNatClampNeg) = (-9) → vp_in (x2 + ((x4 + 4) + 1)) 16)
    (b71 : ¬ 16 ≤ x4 → ¬ (z_M_isThere_37 M x4) = 0 → ¬ (z_M_isCell_37 M ((rem x4 4) + 1) ((x4 / 4) + 1)) = 0 → ¬ (z_M_part_49 M x2 x4 (x4 + 1)) = 0 → ¬ (z_M_part_49 M x2 x4 (x4 + 4)) = 0 → (z_M_part_49 M x2 x4 ((x4 + 4) + 1)) = 0 → ¬ 0 = 0 → ¬ (z_M_part_49 M x2 (x4 + 1) (x4 + 4)) = 0 → ¬ (M.1 49 (x2 + (x4 + 1)).toNatClampNeg) = (-9) → ¬ (M.1 49 (x2 + ((x4 + 4) + 1)).toNatClampNeg) = (-9) → vp_in (x2 + (x4 + 1)) 16)
    (b72 : ¬ 16 ≤ x4 → ¬ (z_M_isThere_37 M x4) = 0 → ¬ (z_M_isCell_37 M ((rem x4 4) + 1) ((x4 / 4) + 1)) = 0 → ¬ (z_M_part_49 M x2 x4 (x4 + 1)) = 0 → ¬ (z_M_part_49 M x2 x4 (x4 + 4)) = 0 → (z_M_part_49 M x2 x4 ((x4 + 4) + 1)) = 0 → ¬ 0 = 0 → ¬ (z_M_part_49 M x2 (x4 + 1) (x4 + 4)) = 0 → ¬ (M.1 49 (x2 + (x4 + 1)).toNatClampNeg) = (-9) → ¬ (M.1 49 (x2 + ((x4 + 4) + 1)).toNatClampNeg) = (-9) → vp_in (x2 + ((x4 + 4) + 1)) 16)
    (h73 : ¬ 16 ≤ x4 → ¬ (z_M_isThere_37 M x4) = 0 → ¬ (z_M_isCell_37 M ((rem x4 4) + 1) ((x4 / 4) + 1)) = 0 → ¬ (z_M_part_49 M x2 x4 (x4 + 1)) = 0 → ¬ (z_M_part_49 M x2 x4 (x4 + 4)) = 0 → (z_M_part_49 M x2 x4 ((x4 + 4) + 1)) = 0 → ¬ 0 = 0 → ¬ (z_M_part_49 M x2 (x4 + 1) (x4 + 4)) = 0 → (z_M_part_49 M x2 (x4 + 1) ((x4 + 4) + 1)) = 0 → 0 = 0 → WX mi_M_crosses 4 Q 5 [some (.ref 37), some (.ref 49), some (.int x2), some (.int (x3 + 0)), some (.int (x4 + 1)), none] [] M)
    (h74 : ¬ 16 ≤ x4 → ¬ (z_M_isThere_37 M x4) = 0 → ¬ (z_M_isCell_37 M ((rem x4 4) + 1) ((x4 / 4) + 1)) = 0 → ¬ (z_M_part_49 M x2 x4 (x4 + 1)) = 0 → ¬ (z_M_part_49 M x2 x4 (x4 + 4)) = 0 → (z_M_part_49 M x2 x4 ((x4 + 4) + 1)) = 0 → ¬ 0 = 0 → ¬ (z_M_part_49 M x2 (x4 + 1) (x4 + 4)) = 0 → (z_M_part_49 M x2 (x4 + 1) ((x4 + 4) + 1)) = 0 → ¬ 0 = 0 → WX mi_M_crosses 4 Q 5 [some (.ref 37), some (.ref 49), some (.int x2), some (.int (x3 + 1)), some (.int (x4 + 1)), none] [] M)
    (b75 : ¬ 16 ≤ x4 → ¬ (z_M_isThere_37 M x4) = 0 → ¬ (z_M_isCell_37 M ((rem x4 4) + 1) ((x4 / 4) + 1)) = 0 → ¬ (z_M_part_49 M x2 x4 (x4 + 1)) = 0 → ¬ (z_M_part_49 M x2 x4 (x4 + 4)) = 0 → (z_M_part_49 M x2 x4 ((x4 + 4) + 1)) = 0 → ¬ 0 = 0 → ¬ (z_M_part_49 M x2 (x4 + 1) (x4 + 4)) = 0 → ¬ (z_M_part_49 M x2 (x4 + 1) ((x4 + 4) + 1)) = 0 → vp_in (x2 + (x4 + 4)) 16)
    (b76 : ¬ 16 ≤ x4 → ¬ (z_M_isThere_37 M x4) = 0 → ¬ (z_M_isCell_37 M ((rem x4 4) + 1) ((x4 / 4) + 1)) = 0 → ¬ (z_M_part_49 M x2 x4 (x4 + 1)) = 0 → ¬ (z_M_part_49 M x2 x4 (x4 + 4)) = 0 → (z_M_part_49 M x2 x4 ((x4 + 4) + 1)) = 0 → ¬ 0 = 0 → ¬ (z_M_part_49 M x2 (x4 + 1) (x4 + 4)) = 0 → ¬ (z_M_part_49 M x2 (x4 + 1) ((x4 + 4) + 1)) = 0 → ¬ (M.1 49 (x2 + (x4 + 4)).toNatClampNeg) = (-9) → vp_in (x2 + ((x4 + 4) + 1)) 16)
    (b77 : ¬ 16 ≤ x4 → ¬ (z_M_isThere_37 M x4) = 0 → ¬ (z_M_isCell_37 M ((rem x4 4) + 1) ((x4 / 4) + 1)) = 0 → ¬ (z_M_part_49 M x2 x4 (x4 + 1)) = 0 → ¬ (z_M_part_49 M x2 x4 (x4 + 4)) = 0 → (z_M_part_49 M x2 x4 ((x4 + 4) + 1)) = 0 → ¬ 0 = 0 → ¬ (z_M_part_49 M x2 (x4 + 1) (x4 + 4)) = 0 → ¬ (z_M_part_49 M x2 (x4 + 1) ((x4 + 4) + 1)) = 0 → ¬ (M.1 49 (x2 + (x4 + 4)).toNatClampNeg) = (-9) → ¬ (M.1 49 (x2 + ((x4 + 4) + 1)).toNatClampNeg) = (-9) → vp_in (x2 + (x4 + 4)) 16)
    (b78 : ¬ 16 ≤ x4 → ¬ (z_M_isThere_37 M x4) = 0 → ¬ (z_M_isCell_37 M ((rem x4 4) + 1) ((x4 / 4) + 1)) = 0 → ¬ (z_M_part_49 M x2 x4 (x4 + 1)) = 0 → ¬ (z_M_part_49 M x2 x4 (x4 + 4)) = 0 → (z_M_part_49 M x2 x4 ((x4 + 4) + 1)) = 0 → ¬ 0 = 0 → ¬ (z_M_part_49 M x2 (x4 + 1) (x4 + 4)) = 0 → ¬ (z_M_part_49 M x2 (x4 + 1) ((x4 + 4) + 1)) = 0 → ¬ (M.1 49 (x2 + (x4 + 4)).toNatClampNeg) = (-9) → ¬ (M.1 49 (x2 + ((x4 + 4) + 1)).toNatClampNeg) = (-9) → vp_in (x2 + ((x4 + 4) + 1)) 16)
    (h79 : ¬ 16 ≤ x4 → ¬ (z_M_isThere_37 M x4) = 0 → ¬ (z_M_isCell_37 M ((rem x4 4) + 1) ((x4 / 4) + 1)) = 0 → ¬ (z_M_part_49 M x2 x4 (x4 + 1)) = 0 → ¬ (z_M_part_49 M x2 x4 (x4 + 4)) = 0 → (z_M_part_49 M x2 x4 ((x4 + 4) + 1)) = 0 → ¬ 0 = 0 → ¬ (z_M_part_49 M x2 (x4 + 1) (x4 + 4)) = 0 → ¬ (z_M_part_49 M x2 (x4 + 1) ((x4 + 4) + 1)) = 0 → (z_M_part_49 M x2 (x4 + 4) ((x4 + 4) + 1)) = 0 → 0 = 0 → WX mi_M_crosses 4 Q 5 [some (.ref 37), some (.ref 49), some (.int x2), some (.int (x3 + 0)), some (.int (x4 + 1)), none] [] M)
    (h80 : ¬ 16 ≤ x4 → ¬ (z_M_isThere_37 M x4) = 0 → ¬ (z_M_isCell_37 M ((rem x4 4) + 1) ((x4 / 4) + 1)) = 0 → ¬ (z_M_part_49 M x2 x4 (x4 + 1)) = 0 → ¬ (z_M_part_49 M x2 x4 (x4 + 4)) = 0 → (z_M_part_49 M x2 x4 ((x4 + 4) + 1)) = 0 → ¬ 0 = 0 → ¬ (z_M_part_49 M x2 (x4 + 1) (x4 + 4)) = 0 → ¬ (z_M_part_49 M x2 (x4 + 1) ((x4 + 4) + 1)) = 0 → (z_M_part_49 M x2 (x4 + 4) ((x4 + 4) + 1)) = 0 → ¬ 0 = 0 → WX mi_M_crosses 4 Q 5 [some (.ref 37), some (.ref 49), some (.int x2), some (.int (x3 + 1)), some (.int (x4 + 1)), none] [] M)
    (h81 : ¬ 16 ≤ x4 → ¬ (z_M_isThere_37 M x4) = 0 → ¬ (z_M_isCell_37 M ((rem x4 4) + 1) ((x4 / 4) + 1)) = 0 → ¬ (z_M_part_49 M x2 x4 (x4 + 1)) = 0 → ¬ (z_M_part_49 M x2 x4 (x4 + 4)) = 0 → (z_M_part_49 M x2 x4 ((x4 + 4) + 1)) = 0 → ¬ 0 = 0 → ¬ (z_M_part_49 M x2 (x4 + 1) (x4 + 4)) = 0 → ¬ (z_M_part_49 M x2 (x4 + 1) ((x4 + 4) + 1)) = 0 → ¬ (z_M_part_49 M x2 (x4 + 4) ((x4 + 4) + 1)) = 0 → 1 = 0 → WX mi_M_crosses 4 Q 5 [some (.ref 37), some (.ref 49), some (.int x2), some (.int (x3 + 0)), some (.int (x4 + 1)), none] [] M)
    (h82 : ¬ 16 ≤ x4 → ¬ (z_M_isThere_37 M x4) = 0 → ¬ (z_M_isCell_37 M ((rem x4 4) + 1) ((x4 / 4) + 1)) = 0 → ¬ (z_M_part_49 M x2 x4 (x4 + 1)) = 0 → ¬ (z_M_part_49 M x2 x4 (x4 + 4)) = 0 → (z_M_part_49 M x2 x4 ((x4 + 4) + 1)) = 0 → ¬ 0 = 0 → ¬ (z_M_part_49 M x2 (x4 + 1) (x4 + 4)) = 0 → ¬ (z_M_part_49 M x2 (x4 + 1) ((x4 + 4) + 1)) = 0 → ¬ (z_M_part_49 M x2 (x4 + 4) ((x4 + 4) + 1)) = 0 → ¬ 1 = 0 → WX mi_M_crosses 4 Q 5 [some (.ref 37), some (.ref 49), some (.int x2), some (.int (x3 + 1)), some (.int (x4 + 1)), none] [] M)
    (h83 : ¬ 16 ≤ x4 → ¬ (z_M_isThere_37 M x4) = 0 → ¬ (z_M_isCell_37 M ((rem x4 4) + 1) ((x4 / 4) + 1)) = 0 → ¬ (z_M_part_49 M x2 x4 (x4 + 1)) = 0 → ¬ (z_M_part_49 M x2 x4 (x4 + 4)) = 0 → ¬ (z_M_part_49 M x2 x4 ((x4 + 4) + 1)) = 0 → 1 = 0 → 0 = 0 → WX mi_M_crosses 4 Q 5 [some (.ref 37), some (.ref 49), some (.int x2), some (.int (x3 + 0)), some (.int (x4 + 1)), none] [] M)
    (h84 : ¬ 16 ≤ x4 → ¬ (z_M_isThere_37 M x4) = 0 → ¬ (z_M_isCell_37 M ((rem x4 4) + 1) ((x4 / 4) + 1)) = 0 → ¬ (z_M_part_49 M x2 x4 (x4 + 1)) = 0 → ¬ (z_M_part_49 M x2 x4 (x4 + 4)) = 0 → ¬ (z_M_part_49 M x2 x4 ((x4 + 4) + 1)) = 0 → 1 = 0 → ¬ 0 = 0 → WX mi_M_crosses 4 Q 5 [some (.ref 37), some (.ref 49), some (.int x2), some (.int (x3 + 1)), some (.int (x4 + 1)), none] [] M)
    (b85 : ¬ 16 ≤ x4 → ¬ (z_M_isThere_37 M x4) = 0 → ¬ (z_M_isCell_37 M ((rem x4 4) + 1) ((x4 / 4) + 1)) = 0 → ¬ (z_M_part_49 M x2 x4 (x4 + 1)) = 0 → ¬ (z_M_part_49 M x2 x4 (x4 + 4)) = 0 → ¬ (z_M_part_49 M x2 x4 ((x4 + 4) + 1)) = 0 → ¬ 1 = 0 → vp_in (x2 + (x4 + 1)) 16)
    (b86 : ¬ 16 ≤ x4 → ¬ (z_M_isThere_37 M x4) = 0 → ¬ (z_M_isCell_37 M ((rem x4 4) + 1) ((x4 / 4) + 1)) = 0 → ¬ (z_M_part_49 M x2 x4 (x4 + 1)) = 0 → ¬ (z_M_part_49 M x2 x4 (x4 + 4)) = 0 → ¬ (z_M_part_49 M x2 x4 ((x4 + 4) + 1)) = 0 → ¬ 1 = 0 → ¬ (M.1 49 (x2 + (x4 + 1)).toNatClampNeg) = (-9) → vp_in (x2 + (x4 + 4)) 16)
    (b87 : ¬ 16 ≤ x4 → ¬ (z_M_isThere_37 M x4) = 0 → ¬ (z_M_isCell_37 M ((rem x4 4) + 1) ((x4 / 4) + 1)) = 0 → ¬ (z_M_part_49 M x2 x4 (x4 + 1)) = 0 → ¬ (z_M_part_49 M x2 x4 (x4 + 4)) = 0 → ¬ (z_M_part_49 M x2 x4 ((x4 + 4) + 1)) = 0 → ¬ 1 = 0 → ¬ (M.1 49 (x2 + (x4 + 1)).toNatClampNeg) = (-9) → ¬ (M.1 49 (x2 + (x4 + 4)).toNatClampNeg) = (-9) → vp_in (x2 + (x4 + 1)) 16)
    (b88 : ¬ 16 ≤ x4 → ¬ (z_M_isThere_37 M x4) = 0 → ¬ (z_M_isCell_37 M ((rem x4 4) + 1) ((x4 / 4) + 1)) = 0 → ¬ (z_M_part_49 M x2 x4 (x4 + 1)) = 0 → ¬ (z_M_part_49 M x2 x4 (x4 + 4)) = 0 → ¬ (z_M_part_49 M x2 x4 ((x4 + 4) + 1)) = 0 → ¬ 1 = 0 → ¬ (M.1 49 (x2 + (x4 + 1)).toNatClampNeg) = (-9) → ¬ (M.1 49 (x2 + (x4 + 4)).toNatClampNeg) = (-9) → vp_in (x2 + (x4 + 4)) 16)
    (h89 : ¬ 16 ≤ x4 → ¬ (z_M_isThere_37 M x4) = 0 → ¬ (z_M_isCell_37 M ((rem x4 4) + 1) ((x4 / 4) + 1)) = 0 → ¬ (z_M_part_49 M x2 x4 (x4 + 1)) = 0 → ¬ (z_M_part_49 M x2 x4 (x4 + 4)) = 0 → ¬ (z_M_part_49 M x2 x4 ((x4 + 4) + 1)) = 0 → ¬ 1 = 0 → (z_M_part_49 M x2 (x4 + 1) (x4 + 4)) = 0 → 0 = 0 → WX mi_M_crosses 4 Q 5 [some (.ref 37), some (.ref 49), some (.int x2), some (.int (x3 + 0)), some (.int (x4 + 1)), none] [] M)
    (h90 : ¬ 16 ≤ x4 → ¬ (z_M_isThere_37 M x4) = 0 → ¬ (z_M_isCell_37 M ((rem x4 4) + 1) ((x4 / 4) + 1)) = 0 → ¬ (z_M_part_49 M x2 x4 (x4 + 1)) = 0 → ¬ (z_M_part_49 M x2 x4 (x4 + 4)) = 0 → ¬ (z_M_part_49 M x2 x4 ((x4 + 4) + 1)) = 0 → ¬ 1 = 0 → (z_M_part_49 M x2 (x4 + 1) (x4 + 4)) = 0 → ¬ 0 = 0 → WX mi_M_crosses 4 Q 5 [some (.ref 37), some (.ref 49), some (.int x2), some (.int (x3 + 1)), some (.int (x4 + 1)), none] [] M)
    (b91 : ¬ 16 ≤ x4 → ¬ (z_M_isThere_37 M x4) = 0 → ¬ (z_M_isCell_37 M ((rem x4 4) + 1) ((x4 / 4) + 1)) = 0 → ¬ (z_M_part_49 M x2 x4 (x4 + 1)) = 0 → ¬ (z_M_part_49 M x2 x4 (x4 + 4)) = 0 → ¬ (z_M_part_49 M x2 x4 ((x4 + 4) + 1)) = 0 → ¬ 1 = 0 → ¬ (z_M_part_49 M x2 (x4 + 1) (x4 + 4)) = 0 → vp_in (x2 + (x4 + 1)) 16)
    (b92 : ¬ 16 ≤ x4 → ¬ (z_M_isThere_37 M x4) = 0 → ¬ (z_M_isCell_37 M ((rem x4 4) + 1) ((x4 / 4) + 1)) = 0 → ¬ (z_M_part_49 M x2 x4 (x4 + 1)) = 0 → ¬ (z_M_part_49 M x2 x4 (x4 + 4)) = 0 → ¬ (z_M_part_49 M x2 x4 ((x4 + 4) + 1)) = 0 → ¬ 1 = 0 → ¬ (z_M_part_49 M x2 (x4 + 1) (x4 + 4)) = 0 → ¬ (M.1 49 (x2 + (x4 + 1)).toNatClampNeg) = (-9) → vp_in (x2 + ((x4 + 4) + 1)) 16)
    (b93 : ¬ 16 ≤ x4 → ¬ (z_M_isThere_37 M x4) = 0 → ¬ (z_M_isCell_37 M ((rem x4 4) + 1) ((x4 / 4) + 1)) = 0 → ¬ (z_M_part_49 M x2 x4 (x4 + 1)) = 0 → ¬ (z_M_part_49 M x2 x4 (x4 + 4)) = 0 → ¬ (z_M_part_49 M x2 x4 ((x4 + 4) + 1)) = 0 → ¬ 1 = 0 → ¬ (z_M_part_49 M x2 (x4 + 1) (x4 + 4)) = 0 → ¬ (M.1 49 (x2 + (x4 + 1)).toNatClampNeg) = (-9) → ¬ (M.1 49 (x2 + ((x4 + 4) + 1)).toNatClampNeg) = (-9) → vp_in (x2 + (x4 + 1)) 16)
    (b94 : ¬ 16 ≤ x4 → ¬ (z_M_isThere_37 M x4) = 0 → ¬ (z_M_isCell_37 M ((rem x4 4) + 1) ((x4 / 4) + 1)) = 0 → ¬ (z_M_part_49 M x2 x4 (x4 + 1)) = 0 → ¬ (z_M_part_49 M x2 x4 (x4 + 4)) = 0 → ¬ (z_M_part_49 M x2 x4 ((x4 + 4) + 1)) = 0 → ¬ 1 = 0 → ¬ (z_M_part_49 M x2 (x4 + 1) (x4 + 4)) = 0 → ¬ (M.1 49 (x2 + (x4 + 1)).toNatClampNeg) = (-9) → ¬ (M.1 49 (x2 + ((x4 + 4) + 1)).toNatClampNeg) = (-9) → vp_in (x2 + ((x4 + 4) + 1)) 16)
    (h95 : ¬ 16 ≤ x4 → ¬ (z_M_isThere_37 M x4) = 0 → ¬ (z_M_isCell_37 M ((rem x4 4) + 1) ((x4 / 4) + 1)) = 0 → ¬ (z_M_part_49 M x2 x4 (x4 + 1)) = 0 → ¬ (z_M_part_49 M x2 x4 (x4 + 4)) = 0 → ¬ (z_M_part_49 M x2 x4 ((x4 + 4) + 1)) = 0 → ¬ 1 = 0 → ¬ (z_M_part_49 M x2 (x4 + 1) (x4 + 4)) = 0 → (z_M_part_49 M x2 (x4 + 1) ((x4 + 4) + 1)) = 0 → 0 = 0 → WX mi_M_crosses 4 Q 5 [some (.ref 37), some (.ref 49), some (.int x2), some (.int (x3 + 0)), some (.int (x4 + 1)), none] [] M)
    (h96 : ¬ 16 ≤ x4 → ¬ (z_M_isThere_37 M x4) = 0 → ¬ (z_M_isCell_37 M ((rem x4 4) + 1) ((x4 / 4) + 1)) = 0 → ¬ (z_M_part_49 M x2 x4 (x4 + 1)) = 0 → ¬ (z_M_part_49 M x2 x4 (x4 + 4)) = 0 → ¬ (z_M_part_49 M x2 x4 ((x4 + 4) + 1)) = 0 → ¬ 1 = 0 → ¬ (z_M_part_49 M x2 (x4 + 1) (x4 + 4)) = 0 → (z_M_part_49 M x2 (x4 + 1) ((x4 + 4) + 1)) = 0 → ¬ 0 = 0 → WX mi_M_crosses 4 Q 5 [some (.ref 37), some (.ref 49), some (.int x2), some (.int (x3 + 1)), some (.int (x4 + 1)), none] [] M)
    (b97 : ¬ 16 ≤ x4 → ¬ (z_M_isThere_37 M x4) = 0 → ¬ (z_M_isCell_37 M ((rem x4 4) + 1) ((x4 / 4) + 1)) = 0 → ¬ (z_M_part_49 M x2 x4 (x4 + 1)) = 0 → ¬ (z_M_part_49 M x2 x4 (x4 + 4)) = 0 → ¬ (z_M_part_49 M x2 x4 ((x4 + 4) + 1)) = 0 → ¬ 1 = 0 → ¬ (z_M_part_49 M x2 (x4 + 1) (x4 + 4)) = 0 → ¬ (z_M_part_49 M x2 (x4 + 1) ((x4 + 4) + 1)) = 0 → vp_in (x2 + (x4 + 4)) 16)
    (b98 : ¬ 16 ≤ x4 → ¬ (z_M_isThere_37 M x4) = 0 → ¬ (z_M_isCell_37 M ((rem x4 4) + 1) ((x4 / 4) + 1)) = 0 → ¬ (z_M_part_49 M x2 x4 (x4 + 1)) = 0 → ¬ (z_M_part_49 M x2 x4 (x4 + 4)) = 0 → ¬ (z_M_part_49 M x2 x4 ((x4 + 4) + 1)) = 0 → ¬ 1 = 0 → ¬ (z_M_part_49 M x2 (x4 + 1) (x4 + 4)) = 0 → ¬ (z_M_part_49 M x2 (x4 + 1) ((x4 + 4) + 1)) = 0 → ¬ (M.1 49 (x2 + (x4 + 4)).toNatClampNeg) = (-9) → vp_in (x2 + ((x4 + 4) + 1)) 16)
    (b99 : ¬ 16 ≤ x4 → ¬ (z_M_isThere_37 M x4) = 0 → ¬ (z_M_isCell_37 M ((rem x4 4) + 1) ((x4 / 4) + 1)) = 0 → ¬ (z_M_part_49 M x2 x4 (x4 + 1)) = 0 → ¬ (z_M_part_49 M x2 x4 (x4 + 4)) = 0 → ¬ (z_M_part_49 M x2 x4 ((x4 + 4) + 1)) = 0 → ¬ 1 = 0 → ¬ (z_M_part_49 M x2 (x4 + 1) (x4 + 4)) = 0 → ¬ (z_M_part_49 M x2 (x4 + 1) ((x4 + 4) + 1)) = 0 → ¬ (M.1 49 (x2 + (x4 + 4)).toNatClampNeg) = (-9) → ¬ (M.1 49 (x2 + ((x4 + 4) + 1)).toNatClampNeg) = (-9) → vp_in (x2 + (x4 + 4)) 16)
    (b100 : ¬ 16 ≤ x4 → ¬ (z_M_isThere_37 M x4) = 0 → ¬ (z_M_isCell_37 M ((rem x4 4) + 1) ((x4 / 4) + 1)) = 0 → ¬ (z_M_part_49 M x2 x4 (x4 + 1)) = 0 → ¬ (z_M_part_49 M x2 x4 (x4 + 4)) = 0 → ¬ (z_M_part_49 M x2 x4 ((x4 + 4) + 1)) = 0 → ¬ 1 = 0 → ¬ (z_M_part_49 M x2 (x4 + 1) (x4 + 4)) = 0 → ¬ (z_M_part_49 M x2 (x4 + 1) ((x4 + 4) + 1)) = 0 → ¬ (M.1 49 (x2 + (x4 + 4)).toNatClampNeg) = (-9) → ¬ (M.1 49 (x2 + ((x4 + 4) + 1)).toNatClampNeg) = (-9) → vp_in (x2 + ((x4 + 4) + 1)) 16)
    (h101 : ¬ 16 ≤ x4 → ¬ (z_M_isThere_37 M x4) = 0 → ¬ (z_M_isCell_37 M ((rem x4 4) + 1) ((x4 / 4) + 1)) = 0 → ¬ (z_M_part_49 M x2 x4 (x4 + 1)) = 0 → ¬ (z_M_part_49 M x2 x4 (x4 + 4)) = 0 → ¬ (z_M_part_49 M x2 x4 ((x4 + 4) + 1)) = 0 → ¬ 1 = 0 → ¬ (z_M_part_49 M x2 (x4 + 1) (x4 + 4)) = 0 → ¬ (z_M_part_49 M x2 (x4 + 1) ((x4 + 4) + 1)) = 0 → (z_M_part_49 M x2 (x4 + 4) ((x4 + 4) + 1)) = 0 → 0 = 0 → WX mi_M_crosses 4 Q 5 [some (.ref 37), some (.ref 49), some (.int x2), some (.int (x3 + 0)), some (.int (x4 + 1)), none] [] M)
    (h102 : ¬ 16 ≤ x4 → ¬ (z_M_isThere_37 M x4) = 0 → ¬ (z_M_isCell_37 M ((rem x4 4) + 1) ((x4 / 4) + 1)) = 0 → ¬ (z_M_part_49 M x2 x4 (x4 + 1)) = 0 → ¬ (z_M_part_49 M x2 x4 (x4 + 4)) = 0 → ¬ (z_M_part_49 M x2 x4 ((x4 + 4) + 1)) = 0 → ¬ 1 = 0 → ¬ (z_M_part_49 M x2 (x4 + 1) (x4 + 4)) = 0 → ¬ (z_M_part_49 M x2 (x4 + 1) ((x4 + 4) + 1)) = 0 → (z_M_part_49 M x2 (x4 + 4) ((x4 + 4) + 1)) = 0 → ¬ 0 = 0 → WX mi_M_crosses 4 Q 5 [some (.ref 37), some (.ref 49), some (.int x2), some (.int (x3 + 1)), some (.int (x4 + 1)), none] [] M)
    (h103 : ¬ 16 ≤ x4 → ¬ (z_M_isThere_37 M x4) = 0 → ¬ (z_M_isCell_37 M ((rem x4 4) + 1) ((x4 / 4) + 1)) = 0 → ¬ (z_M_part_49 M x2 x4 (x4 + 1)) = 0 → ¬ (z_M_part_49 M x2 x4 (x4 + 4)) = 0 → ¬ (z_M_part_49 M x2 x4 ((x4 + 4) + 1)) = 0 → ¬ 1 = 0 → ¬ (z_M_part_49 M x2 (x4 + 1) (x4 + 4)) = 0 → ¬ (z_M_part_49 M x2 (x4 + 1) ((x4 + 4) + 1)) = 0 → ¬ (z_M_part_49 M x2 (x4 + 4) ((x4 + 4) + 1)) = 0 → 1 = 0 → WX mi_M_crosses 4 Q 5 [some (.ref 37), some (.ref 49), some (.int x2), some (.int (x3 + 0)), some (.int (x4 + 1)), none] [] M)
    (h104 : ¬ 16 ≤ x4 → ¬ (z_M_isThere_37 M x4) = 0 → ¬ (z_M_isCell_37 M ((rem x4 4) + 1) ((x4 / 4) + 1)) = 0 → ¬ (z_M_part_49 M x2 x4 (x4 + 1)) = 0 → ¬ (z_M_part_49 M x2 x4 (x4 + 4)) = 0 → ¬ (z_M_part_49 M x2 x4 ((x4 + 4) + 1)) = 0 → ¬ 1 = 0 → ¬ (z_M_part_49 M x2 (x4 + 1) (x4 + 4)) = 0 → ¬ (z_M_part_49 M x2 (x4 + 1) ((x4 + 4) + 1)) = 0 → ¬ (z_M_part_49 M x2 (x4 + 4) ((x4 + 4) + 1)) = 0 → ¬ 1 = 0 → WX mi_M_crosses 4 Q 5 [some (.ref 37), some (.ref 49), some (.int x2), some (.int (x3 + 1)), some (.int (x4 + 1)), none] [] M) :
    WX mi_M_crosses 4 Q 5 [some (.ref 37), some (.ref 49), some (.int x2), some (.int x3), some (.int x4), none] [] M := by
  refine WX.run (pc' := 9) (L' := [some (.ref 37), some (.ref 49), some (.int x2), some (.int x3), some (.int x4), none]) (st' := [.int 16, .int x4]) (M' := M) (P := True) 2 rfl trivial ?_
  refine WX.icmp_ge (off := 165) (tgt := 174) rfl rfl (fun c1 => ?_) (fun c1 => ?_)
  · refine WX.run (pc' := 175) (L' := [some (.ref 37), some (.ref 49), some (.int x2), some (.int x3), some (.int x4), none]) (st' := [.int x3]) (M' := M) (P := True) 1 rfl trivial ?_
    exact WX.iret rfl rfl (h1 c1)
  · refine WX.run (pc' := 15) (L' := [some (.ref 37), some (.ref 49), some (.int x2), some (.int x3), some (.int x4), none]) (st' := [.int x4, .ref 37]) (M' := M) (P := True) 2 rfl trivial ?_
    refine WX.callV (ca := mi_M_isThere) (n := 1) (d' := 3) (st := []) (As := [.int x4]) (q := 37) rfl lk_7_148 ck_M_isThere cv_M_isThere rfl (by decide) rfl (by decide) ⟨by decide, rfl, by decide⟩ (by intro w hw; simp only [List.mem_cons, List.not_mem_nil, or_false] at hw; rcases hw with rfl <;> rfl) (by decide) ?_
    refine wx_M_isThere_37 M x4 (b2 c1) ?_
    show WX mi_M_crosses 4 Q 18 [some (.ref 37), some (.ref 49), some (.int x2), some (.int x3), some (.int x4), none] [.int (z_M_isThere_37 M x4)] M
    refine WX.if_eq (off := 150) (tgt := 168) rfl rfl (fun c2 => ?_) (fun c2 => ?_)
    · refine WX.run (pc' := 5) (L' := [some (.ref 37), some (.ref 49), some (.int x2), some (.int x3), some (.int (x4 + 1)), none]) (st' := []) (M' := M) (P := True) 2 rfl trivial ?_
      exact (h3 c1 c2)
    · refine WX.run (pc' := 34) (L' := [some (.ref 37), some (.ref 49), some (.int x2), some (.int x3), some (.int x4), none]) (st' := [.int ((x4 / 4) + 1), .int ((rem x4 4) + 1), .ref 37]) (M' := M) (P := ((True ∧ ¬ 4 = 0) ∧ ¬ 4 = 0)) 11 rfl ⟨⟨trivial, (by decide)⟩, (by decide)⟩ ?_
      refine WX.callV (ca := mi_M_isCell) (n := 2) (d' := 2) (st := []) (As := [.int ((rem x4 4) + 1), .int ((x4 / 4) + 1)]) (q := 37) rfl lk_7_131 ck_M_isCell cv_M_isCell rfl (by decide) rfl (by decide) ⟨by decide, rfl, by decide⟩ (by intro w hw; simp only [List.mem_cons, List.not_mem_nil, or_false] at hw; rcases hw with rfl | rfl <;> rfl) (by decide) ?_
      refine wx_M_isCell_37 M ((rem x4 4) + 1) ((x4 / 4) + 1) ?_
      show WX mi_M_crosses 4 Q 37 [some (.ref 37), some (.ref 49), some (.int x2), some (.int x3), some (.int x4), none] [.int (z_M_isCell_37 M ((rem x4 4) + 1) ((x4 / 4) + 1))] M
      refine WX.if_eq (off := 131) (tgt := 168) rfl rfl (fun c3 => ?_) (fun c3 => ?_)
      · refine WX.run (pc' := 5) (L' := [some (.ref 37), some (.ref 49), some (.int x2), some (.int x3), some (.int (x4 + 1)), none]) (st' := []) (M' := M) (P := True) 2 rfl trivial ?_
        exact (h4 c1 c2 c3)
      · refine WX.run (pc' := 48) (L' := [some (.ref 37), some (.ref 49), some (.int x2), some (.int x3), some (.int x4), none]) (st' := [.int (x4 + 1), .int x4, .int x2, .ref 49]) (M' := M) (P := True) 6 rfl trivial ?_
        refine WX.callS (ca := mi_M_part) (n := 4) (d' := 1) (st := []) (As := [.ref 49, .int x2, .int x4, .int (x4 + 1)]) rfl lk_7_165 ck_M_part cs_M_part rfl (by decide) rfl (by decide) (by intro w hw; simp only [List.mem_cons, List.not_mem_nil, or_false] at hw; rcases hw with rfl | rfl | rfl | rfl <;> rfl) (by decide) ?_
        refine wx_M_part_49 M x2 x4 (x4 + 1) (b5 c1 c2 c3) (b6 c1 c2 c3) (b7 c1 c2 c3) (b8 c1 c2 c3) ?_
        show WX mi_M_crosses 4 Q 51 [some (.ref 37), some (.ref 49), some (.int x2), some (.int x3), some (.int x4), none] [.int (z_M_part_49 M x2 x4 (x4 + 1))] M
        refine WX.if_eq (off := 37) (tgt := 88) rfl rfl (fun c4 => ?_) (fun c4 => ?_)
        · refine WX.run (pc' := 93) (L' := [some (.ref 37), some (.ref 49), some (.int x2), some (.int x3), some (.int x4), some (.int 0)]) (st' := [.int 0]) (M' := M) (P := True) 3 rfl trivial ?_
          refine WX.if_eq (off := 59) (tgt := 152) rfl rfl (fun c5 => ?_) (fun c5 => ?_)
          · refine WX.run (pc' := 158) (L' := [some (.ref 37), some (.ref 49), some (.int x2), some (.int x3), some (.int x4), some (.int 0)]) (st' := [.int 0, .int x3]) (M' := M) (P := True) 4 rfl trivial ?_
            refine WX.if_eq (off := 7) (tgt := 165) rfl rfl (fun c6 => ?_) (fun c6 => ?_)
            · refine WX.run (pc' := 5) (L' := [some (.ref 37), some (.ref 49), some (.int x2), some (.int (x3 + 0)), some (.int (x4 + 1)), some (.int 0)]) (st' := []) (M' := M) (P := True) 5 rfl trivial ?_
              refine WX.forget2 (L' := [some (.ref 37), some (.ref 49), some (.int x2), some (.int (x3 + 0)), some (.int (x4 + 1)), none]) ?_ ⟨Or.inr rfl, Or.inr rfl, Or.inr rfl, Or.inr rfl, Or.inr rfl, Or.inl rfl, trivial⟩
              exact (h9 c1 c2 c3 c4 c5 c6)
            · refine WX.run (pc' := 5) (L' := [some (.ref 37), some (.ref 49), some (.int x2), some (.int (x3 + 1)), some (.int (x4 + 1)), some (.int 0)]) (st' := []) (M' := M) (P := True) 6 rfl trivial ?_
              refine WX.forget2 (L' := [some (.ref 37), some (.ref 49), some (.int x2), some (.int (x3 + 1)), some (.int (x4 + 1)), none]) ?_ ⟨Or.inr rfl, Or.inr rfl, Or.inr rfl, Or.inr rfl, Or.inr rfl, Or.inl rfl, trivial⟩
              exact (h10 c1 c2 c3 c4 c5 c6)
          · refine WX.run (pc' := 106) (L' := [some (.ref 37), some (.ref 49), some (.int x2), some (.int x3), some (.int x4), some (.int 0)]) (st' := [.int (x4 + 4), .int (x4 + 1), .int x2, .ref 49]) (M' := M) (P := True) 8 rfl trivial ?_
            refine WX.callS (ca := mi_M_part) (n := 4) (d' := 1) (st := []) (As := [.ref 49, .int x2, .int (x4 + 1), .int (x4 + 4)]) rfl lk_7_165 ck_M_part cs_M_part rfl (by decide) rfl (by decide) (by intro w hw; simp only [List.mem_cons, List.not_mem_nil, or_false] at hw; rcases hw with rfl | rfl | rfl | rfl <;> rfl) (by decide) ?_
            refine wx_M_part_49 M x2 (x4 + 1) (x4 + 4) (b11 c1 c2 c3 c4 c5) (b12 c1 c2 c3 c4 c5) (b13 c1 c2 c3 c4 c5) (b14 c1 c2 c3 c4 c5) ?_
            show WX mi_M_crosses 4 Q 109 [some (.ref 37), some (.ref 49), some (.int x2), some (.int x3), some (.int x4), some (.int 0)] [.int (z_M_part_49 M x2 (x4 + 1) (x4 + 4))] M
            refine WX.if_eq (off := 43) (tgt := 152) rfl rfl (fun c7 => ?_) (fun c7 => ?_)
            · refine WX.run (pc' := 158) (L' := [some (.ref 37), some (.ref 49), some (.int x2), some (.int x3), some (.int x4), some (.int 0)]) (st' := [.int 0, .int x3]) (M' := M) (P := True) 4 rfl trivial ?_
              refine WX.if_eq (off := 7) (tgt := 165) rfl rfl (fun c8 => ?_) (fun c8 => ?_)
              · refine WX.run (pc' := 5) (L' := [some (.ref 37), some (.ref 49), some (.int x2), some (.int (x3 + 0)), some (.int (x4 + 1)), some (.int 0)]) (st' := []) (M' := M) (P := True) 5 rfl trivial ?_
                refine WX.forget2 (L' := [some (.ref 37), some (.ref 49), some (.int x2), some (.int (x3 + 0)), some (.int (x4 + 1)), none]) ?_ ⟨Or.inr rfl, Or.inr rfl, Or.inr rfl, Or.inr rfl, Or.inr rfl, Or.inl rfl, trivial⟩
                exact (h15 c1 c2 c3 c4 c5 c7 c8)
              · refine WX.run (pc' := 5) (L' := [some (.ref 37), some (.ref 49), some (.int x2), some (.int (x3 + 1)), some (.int (x4 + 1)), some (.int 0)]) (st' := []) (M' := M) (P := True) 6 rfl trivial ?_
                refine WX.forget2 (L' := [some (.ref 37), some (.ref 49), some (.int x2), some (.int (x3 + 1)), some (.int (x4 + 1)), none]) ?_ ⟨Or.inr rfl, Or.inr rfl, Or.inr rfl, Or.inr rfl, Or.inr rfl, Or.inl rfl, trivial⟩
                exact (h16 c1 c2 c3 c4 c5 c7 c8)
            · refine WX.run (pc' := 124) (L' := [some (.ref 37), some (.ref 49), some (.int x2), some (.int x3), some (.int x4), some (.int 0)]) (st' := [.int ((x4 + 4) + 1), .int (x4 + 1), .int x2, .ref 49]) (M' := M) (P := True) 10 rfl trivial ?_
              refine WX.callS (ca := mi_M_part) (n := 4) (d' := 1) (st := []) (As := [.ref 49, .int x2, .int (x4 + 1), .int ((x4 + 4) + 1)]) rfl lk_7_165 ck_M_part cs_M_part rfl (by decide) rfl (by decide) (by intro w hw; simp only [List.mem_cons, List.not_mem_nil, or_false] at hw; rcases hw with rfl | rfl | rfl | rfl <;> rfl) (by decide) ?_
              refine wx_M_part_49 M x2 (x4 + 1) ((x4 + 4) + 1) (b17 c1 c2 c3 c4 c5 c7) (b18 c1 c2 c3 c4 c5 c7) (b19 c1 c2 c3 c4 c5 c7) (b20 c1 c2 c3 c4 c5 c7) ?_
              show WX mi_M_crosses 4 Q 127 [some (.ref 37), some (.ref 49), some (.int x2), some (.int x3), some (.int x4), some (.int 0)] [.int (z_M_part_49 M x2 (x4 + 1) ((x4 + 4) + 1))] M
              refine WX.if_eq (off := 25) (tgt := 152) rfl rfl (fun c9 => ?_) (fun c9 => ?_)
              · refine WX.run (pc' := 158) (L' := [some (.ref 37), some (.ref 49), some (.int x2), some (.int x3), some (.int x4), some (.int 0)]) (st' := [.int 0, .int x3]) (M' := M) (P := True) 4 rfl trivial ?_
                refine WX.if_eq (off := 7) (tgt := 165) rfl rfl (fun c10 => ?_) (fun c10 => ?_)
                · refine WX.run (pc' := 5) (L' := [some (.ref 37), some (.ref 49), some (.int x2), some (.int (x3 + 0)), some (.int (x4 + 1)), some (.int 0)]) (st' := []) (M' := M) (P := True) 5 rfl trivial ?_
                  refine WX.forget2 (L' := [some (.ref 37), some (.ref 49), some (.int x2), some (.int (x3 + 0)), some (.int (x4 + 1)), none]) ?_ ⟨Or.inr rfl, Or.inr rfl, Or.inr rfl, Or.inr rfl, Or.inr rfl, Or.inl rfl, trivial⟩
                  exact (h21 c1 c2 c3 c4 c5 c7 c9 c10)
                · refine WX.run (pc' := 5) (L' := [some (.ref 37), some (.ref 49), some (.int x2), some (.int (x3 + 1)), some (.int (x4 + 1)), some (.int 0)]) (st' := []) (M' := M) (P := True) 6 rfl trivial ?_
                  refine WX.forget2 (L' := [some (.ref 37), some (.ref 49), some (.int x2), some (.int (x3 + 1)), some (.int (x4 + 1)), none]) ?_ ⟨Or.inr rfl, Or.inr rfl, Or.inr rfl, Or.inr rfl, Or.inr rfl, Or.inl rfl, trivial⟩
                  exact (h22 c1 c2 c3 c4 c5 c7 c9 c10)
              · refine WX.run (pc' := 142) (L' := [some (.ref 37), some (.ref 49), some (.int x2), some (.int x3), some (.int x4), some (.int 0)]) (st' := [.int ((x4 + 4) + 1), .int (x4 + 4), .int x2, .ref 49]) (M' := M) (P := True) 10 rfl trivial ?_
                refine WX.callS (ca := mi_M_part) (n := 4) (d' := 1) (st := []) (As := [.ref 49, .int x2, .int (x4 + 4), .int ((x4 + 4) + 1)]) rfl lk_7_165 ck_M_part cs_M_part rfl (by decide) rfl (by decide) (by intro w hw; simp only [List.mem_cons, List.not_mem_nil, or_false] at hw; rcases hw with rfl | rfl | rfl | rfl <;> rfl) (by decide) ?_
                refine wx_M_part_49 M x2 (x4 + 4) ((x4 + 4) + 1) (b23 c1 c2 c3 c4 c5 c7 c9) (b24 c1 c2 c3 c4 c5 c7 c9) (b25 c1 c2 c3 c4 c5 c7 c9) (b26 c1 c2 c3 c4 c5 c7 c9) ?_
                show WX mi_M_crosses 4 Q 145 [some (.ref 37), some (.ref 49), some (.int x2), some (.int x3), some (.int x4), some (.int 0)] [.int (z_M_part_49 M x2 (x4 + 4) ((x4 + 4) + 1))] M
                refine WX.if_eq (off := 7) (tgt := 152) rfl rfl (fun c11 => ?_) (fun c11 => ?_)
                · refine WX.run (pc' := 158) (L' := [some (.ref 37), some (.ref 49), some (.int x2), some (.int x3), some (.int x4), some (.int 0)]) (st' := [.int 0, .int x3]) (M' := M) (P := True) 4 rfl trivial ?_
                  refine WX.if_eq (off := 7) (tgt := 165) rfl rfl (fun c12 => ?_) (fun c12 => ?_)
                  · refine WX.run (pc' := 5) (L' := [some (.ref 37), some (.ref 49), some (.int x2), some (.int (x3 + 0)), some (.int (x4 + 1)), some (.int 0)]) (st' := []) (M' := M) (P := True) 5 rfl trivial ?_
                    refine WX.forget2 (L' := [some (.ref 37), some (.ref 49), some (.int x2), some (.int (x3 + 0)), some (.int (x4 + 1)), none]) ?_ ⟨Or.inr rfl, Or.inr rfl, Or.inr rfl, Or.inr rfl, Or.inr rfl, Or.inl rfl, trivial⟩
                    exact (h27 c1 c2 c3 c4 c5 c7 c9 c11 c12)
                  · refine WX.run (pc' := 5) (L' := [some (.ref 37), some (.ref 49), some (.int x2), some (.int (x3 + 1)), some (.int (x4 + 1)), some (.int 0)]) (st' := []) (M' := M) (P := True) 6 rfl trivial ?_
                    refine WX.forget2 (L' := [some (.ref 37), some (.ref 49), some (.int x2), some (.int (x3 + 1)), some (.int (x4 + 1)), none]) ?_ ⟨Or.inr rfl, Or.inr rfl, Or.inr rfl, Or.inr rfl, Or.inr rfl, Or.inl rfl, trivial⟩
                    exact (h28 c1 c2 c3 c4 c5 c7 c9 c11 c12)
                · refine WX.run (pc' := 158) (L' := [some (.ref 37), some (.ref 49), some (.int x2), some (.int x3), some (.int x4), some (.int 1)]) (st' := [.int 1, .int x3]) (M' := M) (P := True) 5 rfl trivial ?_
                  refine WX.if_eq (off := 7) (tgt := 165) rfl rfl (fun c13 => ?_) (fun c13 => ?_)
                  · refine WX.run (pc' := 5) (L' := [some (.ref 37), some (.ref 49), some (.int x2), some (.int (x3 + 0)), some (.int (x4 + 1)), some (.int 1)]) (st' := []) (M' := M) (P := True) 5 rfl trivial ?_
                    refine WX.forget2 (L' := [some (.ref 37), some (.ref 49), some (.int x2), some (.int (x3 + 0)), some (.int (x4 + 1)), none]) ?_ ⟨Or.inr rfl, Or.inr rfl, Or.inr rfl, Or.inr rfl, Or.inr rfl, Or.inl rfl, trivial⟩
                    exact (h29 c1 c2 c3 c4 c5 c7 c9 c11 c13)
                  · refine WX.run (pc' := 5) (L' := [some (.ref 37), some (.ref 49), some (.int x2), some (.int (x3 + 1)), some (.int (x4 + 1)), some (.int 1)]) (st' := []) (M' := M) (P := True) 6 rfl trivial ?_
                    refine WX.forget2 (L' := [some (.ref 37), some (.ref 49), some (.int x2), some (.int (x3 + 1)), some (.int (x4 + 1)), none]) ?_ ⟨Or.inr rfl, Or.inr rfl, Or.inr rfl, Or.inr rfl, Or.inr rfl, Or.inl rfl, trivial⟩
                    exact (h30 c1 c2 c3 c4 c5 c7 c9 c11 c13)
        · refine WX.run (pc' := 62) (L' := [some (.ref 37), some (.ref 49), some (.int x2), some (.int x3), some (.int x4), none]) (st' := [.int (x4 + 4), .int x4, .int x2, .ref 49]) (M' := M) (P := True) 6 rfl trivial ?_
          refine WX.callS (ca := mi_M_part) (n := 4) (d' := 1) (st := []) (As := [.ref 49, .int x2, .int x4, .int (x4 + 4)]) rfl lk_7_165 ck_M_part cs_M_part rfl (by decide) rfl (by decide) (by intro w hw; simp only [List.mem_cons, List.not_mem_nil, or_false] at hw; rcases hw with rfl | rfl | rfl | rfl <;> rfl) (by decide) ?_
          refine wx_M_part_49 M x2 x4 (x4 + 4) (b31 c1 c2 c3 c4) (b32 c1 c2 c3 c4) (b33 c1 c2 c3 c4) (b34 c1 c2 c3 c4) ?_
          show WX mi_M_crosses 4 Q 65 [some (.ref 37), some (.ref 49), some (.int x2), some (.int x3), some (.int x4), none] [.int (z_M_part_49 M x2 x4 (x4 + 4))] M
          refine WX.if_eq (off := 23) (tgt := 88) rfl rfl (fun c14 => ?_) (fun c14 => ?_)
          · refine WX.run (pc' := 93) (L' := [some (.ref 37), some (.ref 49), some (.int x2), some (.int x3), some (.int x4), some (.int 0)]) (st' := [.int 0]) (M' := M) (P := True) 3 rfl trivial ?_
            refine WX.if_eq (off := 59) (tgt := 152) rfl rfl (fun c15 => ?_) (fun c15 => ?_)
            · refine WX.run (pc' := 158) (L' := [some (.ref 37), some (.ref 49), some (.int x2), some (.int x3), some (.int x4), some (.int 0)]) (st' := [.int 0, .int x3]) (M' := M) (P := True) 4 rfl trivial ?_
              refine WX.if_eq (off := 7) (tgt := 165) rfl rfl (fun c16 => ?_) (fun c16 => ?_)
              · refine WX.run (pc' := 5) (L' := [some (.ref 37), some (.ref 49), some (.int x2), some (.int (x3 + 0)), some (.int (x4 + 1)), some (.int 0)]) (st' := []) (M' := M) (P := True) 5 rfl trivial ?_
                refine WX.forget2 (L' := [some (.ref 37), some (.ref 49), some (.int x2), some (.int (x3 + 0)), some (.int (x4 + 1)), none]) ?_ ⟨Or.inr rfl, Or.inr rfl, Or.inr rfl, Or.inr rfl, Or.inr rfl, Or.inl rfl, trivial⟩
                exact (h35 c1 c2 c3 c4 c14 c15 c16)
              · refine WX.run (pc' := 5) (L' := [some (.ref 37), some (.ref 49), some (.int x2), some (.int (x3 + 1)), some (.int (x4 + 1)), some (.int 0)]) (st' := []) (M' := M) (P := True) 6 rfl trivial ?_
                refine WX.forget2 (L' := [some (.ref 37), some (.ref 49), some (.int x2), some (.int (x3 + 1)), some (.int (x4 + 1)), none]) ?_ ⟨Or.inr rfl, Or.inr rfl, Or.inr rfl, Or.inr rfl, Or.inr rfl, Or.inl rfl, trivial⟩
                exact (h36 c1 c2 c3 c4 c14 c15 c16)
            · refine WX.run (pc' := 106) (L' := [some (.ref 37), some (.ref 49), some (.int x2), some (.int x3), some (.int x4), some (.int 0)]) (st' := [.int (x4 + 4), .int (x4 + 1), .int x2, .ref 49]) (M' := M) (P := True) 8 rfl trivial ?_
              refine WX.callS (ca := mi_M_part) (n := 4) (d' := 1) (st := []) (As := [.ref 49, .int x2, .int (x4 + 1), .int (x4 + 4)]) rfl lk_7_165 ck_M_part cs_M_part rfl (by decide) rfl (by decide) (by intro w hw; simp only [List.mem_cons, List.not_mem_nil, or_false] at hw; rcases hw with rfl | rfl | rfl | rfl <;> rfl) (by decide) ?_
              refine wx_M_part_49 M x2 (x4 + 1) (x4 + 4) (b37 c1 c2 c3 c4 c14 c15) (b38 c1 c2 c3 c4 c14 c15) (b39 c1 c2 c3 c4 c14 c15) (b40 c1 c2 c3 c4 c14 c15) ?_
              show WX mi_M_crosses 4 Q 109 [some (.ref 37), some (.ref 49), some (.int x2), some (.int x3), some (.int x4), some (.int 0)] [.int (z_M_part_49 M x2 (x4 + 1) (x4 + 4))] M
              refine WX.if_eq (off := 43) (tgt := 152) rfl rfl (fun c17 => ?_) (fun c17 => ?_)
              · refine WX.run (pc' := 158) (L' := [some (.ref 37), some (.ref 49), some (.int x2), some (.int x3), some (.int x4), some (.int 0)]) (st' := [.int 0, .int x3]) (M' := M) (P := True) 4 rfl trivial ?_
                refine WX.if_eq (off := 7) (tgt := 165) rfl rfl (fun c18 => ?_) (fun c18 => ?_)
                · refine WX.run (pc' := 5) (L' := [some (.ref 37), some (.ref 49), some (.int x2), some (.int (x3 + 0)), some (.int (x4 + 1)), some (.int 0)]) (st' := []) (M' := M) (P := True) 5 rfl trivial ?_
                  refine WX.forget2 (L' := [some (.ref 37), some (.ref 49), some (.int x2), some (.int (x3 + 0)), some (.int (x4 + 1)), none]) ?_ ⟨Or.inr rfl, Or.inr rfl, Or.inr rfl, Or.inr rfl, Or.inr rfl, Or.inl rfl, trivial⟩
                  exact (h41 c1 c2 c3 c4 c14 c15 c17 c18)
                · refine WX.run (pc' := 5) (L' := [some (.ref 37), some (.ref 49), some (.int x2), some (.int (x3 + 1)), some (.int (x4 + 1)), some (.int 0)]) (st' := []) (M' := M) (P := True) 6 rfl trivial ?_
                  refine WX.forget2 (L' := [some (.ref 37), some (.ref 49), some (.int x2), some (.int (x3 + 1)), some (.int (x4 + 1)), none]) ?_ ⟨Or.inr rfl, Or.inr rfl, Or.inr rfl, Or.inr rfl, Or.inr rfl, Or.inl rfl, trivial⟩
                  exact (h42 c1 c2 c3 c4 c14 c15 c17 c18)
              · refine WX.run (pc' := 124) (L' := [some (.ref 37), some (.ref 49), some (.int x2), some (.int x3), some (.int x4), some (.int 0)]) (st' := [.int ((x4 + 4) + 1), .int (x4 + 1), .int x2, .ref 49]) (M' := M) (P := True) 10 rfl trivial ?_
                refine WX.callS (ca := mi_M_part) (n := 4) (d' := 1) (st := []) (As := [.ref 49, .int x2, .int (x4 + 1), .int ((x4 + 4) + 1)]) rfl lk_7_165 ck_M_part cs_M_part rfl (by decide) rfl (by decide) (by intro w hw; simp only [List.mem_cons, List.not_mem_nil, or_false] at hw; rcases hw with rfl | rfl | rfl | rfl <;> rfl) (by decide) ?_
                refine wx_M_part_49 M x2 (x4 + 1) ((x4 + 4) + 1) (b43 c1 c2 c3 c4 c14 c15 c17) (b44 c1 c2 c3 c4 c14 c15 c17) (b45 c1 c2 c3 c4 c14 c15 c17) (b46 c1 c2 c3 c4 c14 c15 c17) ?_
                show WX mi_M_crosses 4 Q 127 [some (.ref 37), some (.ref 49), some (.int x2), some (.int x3), some (.int x4), some (.int 0)] [.int (z_M_part_49 M x2 (x4 + 1) ((x4 + 4) + 1))] M
                refine WX.if_eq (off := 25) (tgt := 152) rfl rfl (fun c19 => ?_) (fun c19 => ?_)
                · refine WX.run (pc' := 158) (L' := [some (.ref 37), some (.ref 49), some (.int x2), some (.int x3), some (.int x4), some (.int 0)]) (st' := [.int 0, .int x3]) (M' := M) (P := True) 4 rfl trivial ?_
                  refine WX.if_eq (off := 7) (tgt := 165) rfl rfl (fun c20 => ?_) (fun c20 => ?_)
                  · refine WX.run (pc' := 5) (L' := [some (.ref 37), some (.ref 49), some (.int x2), some (.int (x3 + 0)), some (.int (x4 + 1)), some (.int 0)]) (st' := []) (M' := M) (P := True) 5 rfl trivial ?_
                    refine WX.forget2 (L' := [some (.ref 37), some (.ref 49), some (.int x2), some (.int (x3 + 0)), some (.int (x4 + 1)), none]) ?_ ⟨Or.inr rfl, Or.inr rfl, Or.inr rfl, Or.inr rfl, Or.inr rfl, Or.inl rfl, trivial⟩
                    exact (h47 c1 c2 c3 c4 c14 c15 c17 c19 c20)
                  · refine WX.run (pc' := 5) (L' := [some (.ref 37), some (.ref 49), some (.int x2), some (.int (x3 + 1)), some (.int (x4 + 1)), some (.int 0)]) (st' := []) (M' := M) (P := True) 6 rfl trivial ?_
                    refine WX.forget2 (L' := [some (.ref 37), some (.ref 49), some (.int x2), some (.int (x3 + 1)), some (.int (x4 + 1)), none]) ?_ ⟨Or.inr rfl, Or.inr rfl, Or.inr rfl, Or.inr rfl, Or.inr rfl, Or.inl rfl, trivial⟩
                    exact (h48 c1 c2 c3 c4 c14 c15 c17 c19 c20)
                · refine WX.run (pc' := 142) (L' := [some (.ref 37), some (.ref 49), some (.int x2), some (.int x3), some (.int x4), some (.int 0)]) (st' := [.int ((x4 + 4) + 1), .int (x4 + 4), .int x2, .ref 49]) (M' := M) (P := True) 10 rfl trivial ?_
                  refine WX.callS (ca := mi_M_part) (n := 4) (d' := 1) (st := []) (As := [.ref 49, .int x2, .int (x4 + 4), .int ((x4 + 4) + 1)]) rfl lk_7_165 ck_M_part cs_M_part rfl (by decide) rfl (by decide) (by intro w hw; simp only [List.mem_cons, List.not_mem_nil, or_false] at hw; rcases hw with rfl | rfl | rfl | rfl <;> rfl) (by decide) ?_
                  refine wx_M_part_49 M x2 (x4 + 4) ((x4 + 4) + 1) (b49 c1 c2 c3 c4 c14 c15 c17 c19) (b50 c1 c2 c3 c4 c14 c15 c17 c19) (b51 c1 c2 c3 c4 c14 c15 c17 c19) (b52 c1 c2 c3 c4 c14 c15 c17 c19) ?_
                  show WX mi_M_crosses 4 Q 145 [some (.ref 37), some (.ref 49), some (.int x2), some (.int x3), some (.int x4), some (.int 0)] [.int (z_M_part_49 M x2 (x4 + 4) ((x4 + 4) + 1))] M
                  refine WX.if_eq (off := 7) (tgt := 152) rfl rfl (fun c21 => ?_) (fun c21 => ?_)
                  · refine WX.run (pc' := 158) (L' := [some (.ref 37), some (.ref 49), some (.int x2), some (.int x3), some (.int x4), some (.int 0)]) (st' := [.int 0, .int x3]) (M' := M) (P := True) 4 rfl trivial ?_
                    refine WX.if_eq (off := 7) (tgt := 165) rfl rfl (fun c22 => ?_) (fun c22 => ?_)
                    · refine WX.run (pc' := 5) (L' := [some (.ref 37), some (.ref 49), some (.int x2), some (.int (x3 + 0)), some (.int (x4 + 1)), some (.int 0)]) (st' := []) (M' := M) (P := True) 5 rfl trivial ?_
                      refine WX.forget2 (L' := [some (.ref 37), some (.ref 49), some (.int x2), some (.int (x3 + 0)), some (.int (x4 + 1)), none]) ?_ ⟨Or.inr rfl, Or.inr rfl, Or.inr rfl, Or.inr rfl, Or.inr rfl, Or.inl rfl, trivial⟩
                      exact (h53 c1 c2 c3 c4 c14 c15 c17 c19 c21 c22)
                    · refine WX.run (pc' := 5) (L' := [some (.ref 37), some (.ref 49), some (.int x2), some (.int (x3 + 1)), some (.int (x4 + 1)), some (.int 0)]) (st' := []) (M' := M) (P := True) 6 rfl trivial ?_
                      refine WX.forget2 (L' := [some (.ref 37), some (.ref 49), some (.int x2), some (.int (x3 + 1)), some (.int (x4 + 1)), none]) ?_ ⟨Or.inr rfl, Or.inr rfl, Or.inr rfl, Or.inr rfl, Or.inr rfl, Or.inl rfl, trivial⟩
                      exact (h54 c1 c2 c3 c4 c14 c15 c17 c19 c21 c22)
                  · refine WX.run (pc' := 158) (L' := [some (.ref 37), some (.ref 49), some (.int x2), some (.int x3), some (.int x4), some (.int 1)]) (st' := [.int 1, .int x3]) (M' := M) (P := True) 5 rfl trivial ?_
                    refine WX.if_eq (off := 7) (tgt := 165) rfl rfl (fun c23 => ?_) (fun c23 => ?_)
                    · refine WX.run (pc' := 5) (L' := [some (.ref 37), some (.ref 49), some (.int x2), some (.int (x3 + 0)), some (.int (x4 + 1)), some (.int 1)]) (st' := []) (M' := M) (P := True) 5 rfl trivial ?_
                      refine WX.forget2 (L' := [some (.ref 37), some (.ref 49), some (.int x2), some (.int (x3 + 0)), some (.int (x4 + 1)), none]) ?_ ⟨Or.inr rfl, Or.inr rfl, Or.inr rfl, Or.inr rfl, Or.inr rfl, Or.inl rfl, trivial⟩
                      exact (h55 c1 c2 c3 c4 c14 c15 c17 c19 c21 c23)
                    · refine WX.run (pc' := 5) (L' := [some (.ref 37), some (.ref 49), some (.int x2), some (.int (x3 + 1)), some (.int (x4 + 1)), some (.int 1)]) (st' := []) (M' := M) (P := True) 6 rfl trivial ?_
                      refine WX.forget2 (L' := [some (.ref 37), some (.ref 49), some (.int x2), some (.int (x3 + 1)), some (.int (x4 + 1)), none]) ?_ ⟨Or.inr rfl, Or.inr rfl, Or.inr rfl, Or.inr rfl, Or.inr rfl, Or.inl rfl, trivial⟩
                      exact (h56 c1 c2 c3 c4 c14 c15 c17 c19 c21 c23)
          · refine WX.run (pc' := 78) (L' := [some (.ref 37), some (.ref 49), some (.int x2), some (.int x3), some (.int x4), none]) (st' := [.int ((x4 + 4) + 1), .int x4, .int x2, .ref 49]) (M' := M) (P := True) 8 rfl trivial ?_
            refine WX.callS (ca := mi_M_part) (n := 4) (d' := 1) (st := []) (As := [.ref 49, .int x2, .int x4, .int ((x4 + 4) + 1)]) rfl lk_7_165 ck_M_part cs_M_part rfl (by decide) rfl (by decide) (by intro w hw; simp only [List.mem_cons, List.not_mem_nil, or_false] at hw; rcases hw with rfl | rfl | rfl | rfl <;> rfl) (by decide) ?_
            refine wx_M_part_49 M x2 x4 ((x4 + 4) + 1) (b57 c1 c2 c3 c4 c14) (b58 c1 c2 c3 c4 c14) (b59 c1 c2 c3 c4 c14) (b60 c1 c2 c3 c4 c14) ?_
            show WX mi_M_crosses 4 Q 81 [some (.ref 37), some (.ref 49), some (.int x2), some (.int x3), some (.int x4), none] [.int (z_M_part_49 M x2 x4 ((x4 + 4) + 1))] M
            refine WX.if_eq (off := 7) (tgt := 88) rfl rfl (fun c24 => ?_) (fun c24 => ?_)
            · refine WX.run (pc' := 93) (L' := [some (.ref 37), some (.ref 49), some (.int x2), some (.int x3), some (.int x4), some (.int 0)]) (st' := [.int 0]) (M' := M) (P := True) 3 rfl trivial ?_
              refine WX.if_eq (off := 59) (tgt := 152) rfl rfl (fun c25 => ?_) (fun c25 => ?_)
              · refine WX.run (pc' := 158) (L' := [some (.ref 37), some (.ref 49), some (.int x2), some (.int x3), some (.int x4), some (.int 0)]) (st' := [.int 0, .int x3]) (M' := M) (P := True) 4 rfl trivial ?_
                refine WX.if_eq (off := 7) (tgt := 165) rfl rfl (fun c26 => ?_) (fun c26 => ?_)
                · refine WX.run (pc' := 5) (L' := [some (.ref 37), some (.ref 49), some (.int x2), some (.int (x3 + 0)), some (.int (x4 + 1)), some (.int 0)]) (st' := []) (M' := M) (P := True) 5 rfl trivial ?_
                  refine WX.forget2 (L' := [some (.ref 37), some (.ref 49), some (.int x2), some (.int (x3 + 0)), some (.int (x4 + 1)), none]) ?_ ⟨Or.inr rfl, Or.inr rfl, Or.inr rfl, Or.inr rfl, Or.inr rfl, Or.inl rfl, trivial⟩
                  exact (h61 c1 c2 c3 c4 c14 c24 c25 c26)
                · refine WX.run (pc' := 5) (L' := [some (.ref 37), some (.ref 49), some (.int x2), some (.int (x3 + 1)), some (.int (x4 + 1)), some (.int 0)]) (st' := []) (M' := M) (P := True) 6 rfl trivial ?_
                  refine WX.forget2 (L' := [some (.ref 37), some (.ref 49), some (.int x2), some (.int (x3 + 1)), some (.int (x4 + 1)), none]) ?_ ⟨Or.inr rfl, Or.inr rfl, Or.inr rfl, Or.inr rfl, Or.inr rfl, Or.inl rfl, trivial⟩
                  exact (h62 c1 c2 c3 c4 c14 c24 c25 c26)
              · refine WX.run (pc' := 106) (L' := [some (.ref 37), some (.ref 49), some (.int x2), some (.int x3), some (.int x4), some (.int 0)]) (st' := [.int (x4 + 4), .int (x4 + 1), .int x2, .ref 49]) (M' := M) (P := True) 8 rfl trivial ?_
                refine WX.callS (ca := mi_M_part) (n := 4) (d' := 1) (st := []) (As := [.ref 49, .int x2, .int (x4 + 1), .int (x4 + 4)]) rfl lk_7_165 ck_M_part cs_M_part rfl (by decide) rfl (by decide) (by intro w hw; simp only [List.mem_cons, List.not_mem_nil, or_false] at hw; rcases hw with rfl | rfl | rfl | rfl <;> rfl) (by decide) ?_
                refine wx_M_part_49 M x2 (x4 + 1) (x4 + 4) (b63 c1 c2 c3 c4 c14 c24 c25) (b64 c1 c2 c3 c4 c14 c24 c25) (b65 c1 c2 c3 c4 c14 c24 c25) (b66 c1 c2 c3 c4 c14 c24 c25) ?_
                show WX mi_M_crosses 4 Q 109 [some (.ref 37), some (.ref 49), some (.int x2), some (.int x3), some (.int x4), some (.int 0)] [.int (z_M_part_49 M x2 (x4 + 1) (x4 + 4))] M
                refine WX.if_eq (off := 43) (tgt := 152) rfl rfl (fun c27 => ?_) (fun c27 => ?_)
                · refine WX.run (pc' := 158) (L' := [some (.ref 37), some (.ref 49), some (.int x2), some (.int x3), some (.int x4), some (.int 0)]) (st' := [.int 0, .int x3]) (M' := M) (P := True) 4 rfl trivial ?_
                  refine WX.if_eq (off := 7) (tgt := 165) rfl rfl (fun c28 => ?_) (fun c28 => ?_)
                  · refine WX.run (pc' := 5) (L' := [some (.ref 37), some (.ref 49), some (.int x2), some (.int (x3 + 0)), some (.int (x4 + 1)), some (.int 0)]) (st' := []) (M' := M) (P := True) 5 rfl trivial ?_
                    refine WX.forget2 (L' := [some (.ref 37), some (.ref 49), some (.int x2), some (.int (x3 + 0)), some (.int (x4 + 1)), none]) ?_ ⟨Or.inr rfl, Or.inr rfl, Or.inr rfl, Or.inr rfl, Or.inr rfl, Or.inl rfl, trivial⟩
                    exact (h67 c1 c2 c3 c4 c14 c24 c25 c27 c28)
                  · refine WX.run (pc' := 5) (L' := [some (.ref 37), some (.ref 49), some (.int x2), some (.int (x3 + 1)), some (.int (x4 + 1)), some (.int 0)]) (st' := []) (M' := M) (P := True) 6 rfl trivial ?_
                    refine WX.forget2 (L' := [some (.ref 37), some (.ref 49), some (.int x2), some (.int (x3 + 1)), some (.int (x4 + 1)), none]) ?_ ⟨Or.inr rfl, Or.inr rfl, Or.inr rfl, Or.inr rfl, Or.inr rfl, Or.inl rfl, trivial⟩
                    exact (h68 c1 c2 c3 c4 c14 c24 c25 c27 c28)
                · refine WX.run (pc' := 124) (L' := [some (.ref 37), some (.ref 49), some (.int x2), some (.int x3), some (.int x4), some (.int 0)]) (st' := [.int ((x4 + 4) + 1), .int (x4 + 1), .int x2, .ref 49]) (M' := M) (P := True) 10 rfl trivial ?_
                  refine WX.callS (ca := mi_M_part) (n := 4) (d' := 1) (st := []) (As := [.ref 49, .int x2, .int (x4 + 1), .int ((x4 + 4) + 1)]) rfl lk_7_165 ck_M_part cs_M_part rfl (by decide) rfl (by decide) (by intro w hw; simp only [List.mem_cons, List.not_mem_nil, or_false] at hw; rcases hw with rfl | rfl | rfl | rfl <;> rfl) (by decide) ?_
                  refine wx_M_part_49 M x2 (x4 + 1) ((x4 + 4) + 1) (b69 c1 c2 c3 c4 c14 c24 c25 c27) (b70 c1 c2 c3 c4 c14 c24 c25 c27) (b71 c1 c2 c3 c4 c14 c24 c25 c27) (b72 c1 c2 c3 c4 c14 c24 c25 c27) ?_
                  show WX mi_M_crosses 4 Q 127 [some (.ref 37), some (.ref 49), some (.int x2), some (.int x3), some (.int x4), some (.int 0)] [.int (z_M_part_49 M x2 (x4 + 1) ((x4 + 4) + 1))] M
                  refine WX.if_eq (off := 25) (tgt := 152) rfl rfl (fun c29 => ?_) (fun c29 => ?_)
                  · refine WX.run (pc' := 158) (L' := [some (.ref 37), some (.ref 49), some (.int x2), some (.int x3), some (.int x4), some (.int 0)]) (st' := [.int 0, .int x3]) (M' := M) (P := True) 4 rfl trivial ?_
                    refine WX.if_eq (off := 7) (tgt := 165) rfl rfl (fun c30 => ?_) (fun c30 => ?_)
                    · refine WX.run (pc' := 5) (L' := [some (.ref 37), some (.ref 49), some (.int x2), some (.int (x3 + 0)), some (.int (x4 + 1)), some (.int 0)]) (st' := []) (M' := M) (P := True) 5 rfl trivial ?_
                      refine WX.forget2 (L' := [some (.ref 37), some (.ref 49), some (.int x2), some (.int (x3 + 0)), some (.int (x4 + 1)), none]) ?_ ⟨Or.inr rfl, Or.inr rfl, Or.inr rfl, Or.inr rfl, Or.inr rfl, Or.inl rfl, trivial⟩
                      exact (h73 c1 c2 c3 c4 c14 c24 c25 c27 c29 c30)
                    · refine WX.run (pc' := 5) (L' := [some (.ref 37), some (.ref 49), some (.int x2), some (.int (x3 + 1)), some (.int (x4 + 1)), some (.int 0)]) (st' := []) (M' := M) (P := True) 6 rfl trivial ?_
                      refine WX.forget2 (L' := [some (.ref 37), some (.ref 49), some (.int x2), some (.int (x3 + 1)), some (.int (x4 + 1)), none]) ?_ ⟨Or.inr rfl, Or.inr rfl, Or.inr rfl, Or.inr rfl, Or.inr rfl, Or.inl rfl, trivial⟩
                      exact (h74 c1 c2 c3 c4 c14 c24 c25 c27 c29 c30)
                  · refine WX.run (pc' := 142) (L' := [some (.ref 37), some (.ref 49), some (.int x2), some (.int x3), some (.int x4), some (.int 0)]) (st' := [.int ((x4 + 4) + 1), .int (x4 + 4), .int x2, .ref 49]) (M' := M) (P := True) 10 rfl trivial ?_
                    refine WX.callS (ca := mi_M_part) (n := 4) (d' := 1) (st := []) (As := [.ref 49, .int x2, .int (x4 + 4), .int ((x4 + 4) + 1)]) rfl lk_7_165 ck_M_part cs_M_part rfl (by decide) rfl (by decide) (by intro w hw; simp only [List.mem_cons, List.not_mem_nil, or_false] at hw; rcases hw with rfl | rfl | rfl | rfl <;> rfl) (by decide) ?_
                    refine wx_M_part_49 M x2 (x4 + 4) ((x4 + 4) + 1) (b75 c1 c2 c3 c4 c14 c24 c25 c27 c29) (b76 c1 c2 c3 c4 c14 c24 c25 c27 c29) (b77 c1 c2 c3 c4 c14 c24 c25 c27 c29) (b78 c1 c2 c3 c4 c14 c24 c25 c27 c29) ?_
                    show WX mi_M_crosses 4 Q 145 [some (.ref 37), some (.ref 49), some (.int x2), some (.int x3), some (.int x4), some (.int 0)] [.int (z_M_part_49 M x2 (x4 + 4) ((x4 + 4) + 1))] M
                    refine WX.if_eq (off := 7) (tgt := 152) rfl rfl (fun c31 => ?_) (fun c31 => ?_)
                    · refine WX.run (pc' := 158) (L' := [some (.ref 37), some (.ref 49), some (.int x2), some (.int x3), some (.int x4), some (.int 0)]) (st' := [.int 0, .int x3]) (M' := M) (P := True) 4 rfl trivial ?_
                      refine WX.if_eq (off := 7) (tgt := 165) rfl rfl (fun c32 => ?_) (fun c32 => ?_)
                      · refine WX.run (pc' := 5) (L' := [some (.ref 37), some (.ref 49), some (.int x2), some (.int (x3 + 0)), some (.int (x4 + 1)), some (.int 0)]) (st' := []) (M' := M) (P := True) 5 rfl trivial ?_
                        refine WX.forget2 (L' := [some (.ref 37), some (.ref 49), some (.int x2), some (.int (x3 + 0)), some (.int (x4 + 1)), none]) ?_ ⟨Or.inr rfl, Or.inr rfl, Or.inr rfl, Or.inr rfl, Or.inr rfl, Or.inl rfl, trivial⟩
                        exact (h79 c1 c2 c3 c4 c14 c24 c25 c27 c29 c31 c32)
                      · refine WX.run (pc' := 5) (L' := [some (.ref 37), some (.ref 49), some (.int x2), some (.int (x3 + 1)), some (.int (x4 + 1)), some (.int 0)]) (st' := []) (M' := M) (P := True) 6 rfl trivial ?_
                        refine WX.forget2 (L' := [some (.ref 37), some (.ref 49), some (.int x2), some (.int (x3 + 1)), some (.int (x4 + 1)), none]) ?_ ⟨Or.inr rfl, Or.inr rfl, Or.inr rfl, Or.inr rfl, Or.inr rfl, Or.inl rfl, trivial⟩
                        exact (h80 c1 c2 c3 c4 c14 c24 c25 c27 c29 c31 c32)
                    · refine WX.run (pc' := 158) (L' := [some (.ref 37), some (.ref 49), some (.int x2), some (.int x3), some (.int x4), some (.int 1)]) (st' := [.int 1, .int x3]) (M' := M) (P := True) 5 rfl trivial ?_
                      refine WX.if_eq (off := 7) (tgt := 165) rfl rfl (fun c33 => ?_) (fun c33 => ?_)
                      · refine WX.run (pc' := 5) (L' := [some (.ref 37), some (.ref 49), some (.int x2), some (.int (x3 + 0)), some (.int (x4 + 1)), some (.int 1)]) (st' := []) (M' := M) (P := True) 5 rfl trivial ?_
                        refine WX.forget2 (L' := [some (.ref 37), some (.ref 49), some (.int x2), some (.int (x3 + 0)), some (.int (x4 + 1)), none]) ?_ ⟨Or.inr rfl, Or.inr rfl, Or.inr rfl, Or.inr rfl, Or.inr rfl, Or.inl rfl, trivial⟩
                        exact (h81 c1 c2 c3 c4 c14 c24 c25 c27 c29 c31 c33)
                      · refine WX.run (pc' := 5) (L' := [some (.ref 37), some (.ref 49), some (.int x2), some (.int (x3 + 1)), some (.int (x4 + 1)), some (.int 1)]) (st' := []) (M' := M) (P := True) 6 rfl trivial ?_
                        refine WX.forget2 (L' := [some (.ref 37), some (.ref 49), some (.int x2), some (.int (x3 + 1)), some (.int (x4 + 1)), none]) ?_ ⟨Or.inr rfl, Or.inr rfl, Or.inr rfl, Or.inr rfl, Or.inr rfl, Or.inl rfl, trivial⟩
                        exact (h82 c1 c2 c3 c4 c14 c24 c25 c27 c29 c31 c33)
            · refine WX.run (pc' := 93) (L' := [some (.ref 37), some (.ref 49), some (.int x2), some (.int x3), some (.int x4), some (.int 1)]) (st' := [.int 1]) (M' := M) (P := True) 4 rfl trivial ?_
              refine WX.if_eq (off := 59) (tgt := 152) rfl rfl (fun c34 => ?_) (fun c34 => ?_)
              · refine WX.run (pc' := 158) (L' := [some (.ref 37), some (.ref 49), some (.int x2), some (.int x3), some (.int x4), some (.int 0)]) (st' := [.int 0, .int x3]) (M' := M) (P := True) 4 rfl trivial ?_
                refine WX.if_eq (off := 7) (tgt := 165) rfl rfl (fun c35 => ?_) (fun c35 => ?_)
                · refine WX.run (pc' := 5) (L' := [some (.ref 37), some (.ref 49), some (.int x2), some (.int (x3 + 0)), some (.int (x4 + 1)), some (.int 0)]) (st' := []) (M' := M) (P := True) 5 rfl trivial ?_
                  refine WX.forget2 (L' := [some (.ref 37), some (.ref 49), some (.int x2), some (.int (x3 + 0)), some (.int (x4 + 1)), none]) ?_ ⟨Or.inr rfl, Or.inr rfl, Or.inr rfl, Or.inr rfl, Or.inr rfl, Or.inl rfl, trivial⟩
                  exact (h83 c1 c2 c3 c4 c14 c24 c34 c35)
                · refine WX.run (pc' := 5) (L' := [some (.ref 37), some (.ref 49), some (.int x2), some (.int (x3 + 1)), some (.int (x4 + 1)), some (.int 0)]) (st' := []) (M' := M) (P := True) 6 rfl trivial ?_
                  refine WX.forget2 (L' := [some (.ref 37), some (.ref 49), some (.int x2), some (.int (x3 + 1)), some (.int (x4 + 1)), none]) ?_ ⟨Or.inr rfl, Or.inr rfl, Or.inr rfl, Or.inr rfl, Or.inr rfl, Or.inl rfl, trivial⟩
                  exact (h84 c1 c2 c3 c4 c14 c24 c34 c35)
              · refine WX.run (pc' := 106) (L' := [some (.ref 37), some (.ref 49), some (.int x2), some (.int x3), some (.int x4), some (.int 1)]) (st' := [.int (x4 + 4), .int (x4 + 1), .int x2, .ref 49]) (M' := M) (P := True) 8 rfl trivial ?_
                refine WX.callS (ca := mi_M_part) (n := 4) (d' := 1) (st := []) (As := [.ref 49, .int x2, .int (x4 + 1), .int (x4 + 4)]) rfl lk_7_165 ck_M_part cs_M_part rfl (by decide) rfl (by decide) (by intro w hw; simp only [List.mem_cons, List.not_mem_nil, or_false] at hw; rcases hw with rfl | rfl | rfl | rfl <;> rfl) (by decide) ?_
                refine wx_M_part_49 M x2 (x4 + 1) (x4 + 4) (b85 c1 c2 c3 c4 c14 c24 c34) (b86 c1 c2 c3 c4 c14 c24 c34) (b87 c1 c2 c3 c4 c14 c24 c34) (b88 c1 c2 c3 c4 c14 c24 c34) ?_
                show WX mi_M_crosses 4 Q 109 [some (.ref 37), some (.ref 49), some (.int x2), some (.int x3), some (.int x4), some (.int 1)] [.int (z_M_part_49 M x2 (x4 + 1) (x4 + 4))] M
                refine WX.if_eq (off := 43) (tgt := 152) rfl rfl (fun c36 => ?_) (fun c36 => ?_)
                · refine WX.run (pc' := 158) (L' := [some (.ref 37), some (.ref 49), some (.int x2), some (.int x3), some (.int x4), some (.int 0)]) (st' := [.int 0, .int x3]) (M' := M) (P := True) 4 rfl trivial ?_
                  refine WX.if_eq (off := 7) (tgt := 165) rfl rfl (fun c37 => ?_) (fun c37 => ?_)
                  · refine WX.run (pc' := 5) (L' := [some (.ref 37), some (.ref 49), some (.int x2), some (.int (x3 + 0)), some (.int (x4 + 1)), some (.int 0)]) (st' := []) (M' := M) (P := True) 5 rfl trivial ?_
                    refine WX.forget2 (L' := [some (.ref 37), some (.ref 49), some (.int x2), some (.int (x3 + 0)), some (.int (x4 + 1)), none]) ?_ ⟨Or.inr rfl, Or.inr rfl, Or.inr rfl, Or.inr rfl, Or.inr rfl, Or.inl rfl, trivial⟩
                    exact (h89 c1 c2 c3 c4 c14 c24 c34 c36 c37)
                  · refine WX.run (pc' := 5) (L' := [some (.ref 37), some (.ref 49), some (.int x2), some (.int (x3 + 1)), some (.int (x4 + 1)), some (.int 0)]) (st' := []) (M' := M) (P := True) 6 rfl trivial ?_
                    refine WX.forget2 (L' := [some (.ref 37), some (.ref 49), some (.int x2), some (.int (x3 + 1)), some (.int (x4 + 1)), none]) ?_ ⟨Or.inr rfl, Or.inr rfl, Or.inr rfl, Or.inr rfl, Or.inr rfl, Or.inl rfl, trivial⟩
                    exact (h90 c1 c2 c3 c4 c14 c24 c34 c36 c37)
                · refine WX.run (pc' := 124) (L' := [some (.ref 37), some (.ref 49), some (.int x2), some (.int x3), some (.int x4), some (.int 1)]) (st' := [.int ((x4 + 4) + 1), .int (x4 + 1), .int x2, .ref 49]) (M' := M) (P := True) 10 rfl trivial ?_
                  refine WX.callS (ca := mi_M_part) (n := 4) (d' := 1) (st := []) (As := [.ref 49, .int x2, .int (x4 + 1), .int ((x4 + 4) + 1)]) rfl lk_7_165 ck_M_part cs_M_part rfl (by decide) rfl (by decide) (by intro w hw; simp only [List.mem_cons, List.not_mem_nil, or_false] at hw; rcases hw with rfl | rfl | rfl | rfl <;> rfl) (by decide) ?_
                  refine wx_M_part_49 M x2 (x4 + 1) ((x4 + 4) + 1) (b91 c1 c2 c3 c4 c14 c24 c34 c36) (b92 c1 c2 c3 c4 c14 c24 c34 c36) (b93 c1 c2 c3 c4 c14 c24 c34 c36) (b94 c1 c2 c3 c4 c14 c24 c34 c36) ?_
                  show WX mi_M_crosses 4 Q 127 [some (.ref 37), some (.ref 49), some (.int x2), some (.int x3), some (.int x4), some (.int 1)] [.int (z_M_part_49 M x2 (x4 + 1) ((x4 + 4) + 1))] M
                  refine WX.if_eq (off := 25) (tgt := 152) rfl rfl (fun c38 => ?_) (fun c38 => ?_)
                  · refine WX.run (pc' := 158) (L' := [some (.ref 37), some (.ref 49), some (.int x2), some (.int x3), some (.int x4), some (.int 0)]) (st' := [.int 0, .int x3]) (M' := M) (P := True) 4 rfl trivial ?_
                    refine WX.if_eq (off := 7) (tgt := 165) rfl rfl (fun c39 => ?_) (fun c39 => ?_)
                    · refine WX.run (pc' := 5) (L' := [some (.ref 37), some (.ref 49), some (.int x2), some (.int (x3 + 0)), some (.int (x4 + 1)), some (.int 0)]) (st' := []) (M' := M) (P := True) 5 rfl trivial ?_
                      refine WX.forget2 (L' := [some (.ref 37), some (.ref 49), some (.int x2), some (.int (x3 + 0)), some (.int (x4 + 1)), none]) ?_ ⟨Or.inr rfl, Or.inr rfl, Or.inr rfl, Or.inr rfl, Or.inr rfl, Or.inl rfl, trivial⟩
                      exact (h95 c1 c2 c3 c4 c14 c24 c34 c36 c38 c39)
                    · refine WX.run (pc' := 5) (L' := [some (.ref 37), some (.ref 49), some (.int x2), some (.int (x3 + 1)), some (.int (x4 + 1)), some (.int 0)]) (st' := []) (M' := M) (P := True) 6 rfl trivial ?_
                      refine WX.forget2 (L' := [some (.ref 37), some (.ref 49), some (.int x2), some (.int (x3 + 1)), some (.int (x4 + 1)), none]) ?_ ⟨Or.inr rfl, Or.inr rfl, Or.inr rfl, Or.inr rfl, Or.inr rfl, Or.inl rfl, trivial⟩
                      exact (h96 c1 c2 c3 c4 c14 c24 c34 c36 c38 c39)
                  · refine WX.run (pc' := 142) (L' := [some (.ref 37), some (.ref 49), some (.int x2), some (.int x3), some (.int x4), some (.int 1)]) (st' := [.int ((x4 + 4) + 1), .int (x4 + 4), .int x2, .ref 49]) (M' := M) (P := True) 10 rfl trivial ?_
                    refine WX.callS (ca := mi_M_part) (n := 4) (d' := 1) (st := []) (As := [.ref 49, .int x2, .int (x4 + 4), .int ((x4 + 4) + 1)]) rfl lk_7_165 ck_M_part cs_M_part rfl (by decide) rfl (by decide) (by intro w hw; simp only [List.mem_cons, List.not_mem_nil, or_false] at hw; rcases hw with rfl | rfl | rfl | rfl <;> rfl) (by decide) ?_
                    refine wx_M_part_49 M x2 (x4 + 4) ((x4 + 4) + 1) (b97 c1 c2 c3 c4 c14 c24 c34 c36 c38) (b98 c1 c2 c3 c4 c14 c24 c34 c36 c38) (b99 c1 c2 c3 c4 c14 c24 c34 c36 c38) (b100 c1 c2 c3 c4 c14 c24 c34 c36 c38) ?_
                    show WX mi_M_crosses 4 Q 145 [some (.ref 37), some (.ref 49), some (.int x2), some (.int x3), some (.int x4), some (.int 1)] [.int (z_M_part_49 M x2 (x4 + 4) ((x4 + 4) + 1))] M
                    refine WX.if_eq (off := 7) (tgt := 152) rfl rfl (fun c40 => ?_) (fun c40 => ?_)
                    · refine WX.run (pc' := 158) (L' := [some (.ref 37), some (.ref 49), some (.int x2), some (.int x3), some (.int x4), some (.int 0)]) (st' := [.int 0, .int x3]) (M' := M) (P := True) 4 rfl trivial ?_
                      refine WX.if_eq (off := 7) (tgt := 165) rfl rfl (fun c41 => ?_) (fun c41 => ?_)
                      · refine WX.run (pc' := 5) (L' := [some (.ref 37), some (.ref 49), some (.int x2), some (.int (x3 + 0)), some (.int (x4 + 1)), some (.int 0)]) (st' := []) (M' := M) (P := True) 5 rfl trivial ?_
                        refine WX.forget2 (L' := [some (.ref 37), some (.ref 49), some (.int x2), some (.int (x3 + 0)), some (.int (x4 + 1)), none]) ?_ ⟨Or.inr rfl, Or.inr rfl, Or.inr rfl, Or.inr rfl, Or.inr rfl, Or.inl rfl, trivial⟩
                        exact (h101 c1 c2 c3 c4 c14 c24 c34 c36 c38 c40 c41)
                      · refine WX.run (pc' := 5) (L' := [some (.ref 37), some (.ref 49), some (.int x2), some (.int (x3 + 1)), some (.int (x4 + 1)), some (.int 0)]) (st' := []) (M' := M) (P := True) 6 rfl trivial ?_
                        refine WX.forget2 (L' := [some (.ref 37), some (.ref 49), some (.int x2), some (.int (x3 + 1)), some (.int (x4 + 1)), none]) ?_ ⟨Or.inr rfl, Or.inr rfl, Or.inr rfl, Or.inr rfl, Or.inr rfl, Or.inl rfl, trivial⟩
                        exact (h102 c1 c2 c3 c4 c14 c24 c34 c36 c38 c40 c41)
                    · refine WX.run (pc' := 158) (L' := [some (.ref 37), some (.ref 49), some (.int x2), some (.int x3), some (.int x4), some (.int 1)]) (st' := [.int 1, .int x3]) (M' := M) (P := True) 5 rfl trivial ?_
                      refine WX.if_eq (off := 7) (tgt := 165) rfl rfl (fun c42 => ?_) (fun c42 => ?_)
                      · refine WX.run (pc' := 5) (L' := [some (.ref 37), some (.ref 49), some (.int x2), some (.int (x3 + 0)), some (.int (x4 + 1)), some (.int 1)]) (st' := []) (M' := M) (P := True) 5 rfl trivial ?_
                        refine WX.forget2 (L' := [some (.ref 37), some (.ref 49), some (.int x2), some (.int (x3 + 0)), some (.int (x4 + 1)), none]) ?_ ⟨Or.inr rfl, Or.inr rfl, Or.inr rfl, Or.inr rfl, Or.inr rfl, Or.inl rfl, trivial⟩
                        exact (h103 c1 c2 c3 c4 c14 c24 c34 c36 c38 c40 c42)
                      · refine WX.run (pc' := 5) (L' := [some (.ref 37), some (.ref 49), some (.int x2), some (.int (x3 + 1)), some (.int (x4 + 1)), some (.int 1)]) (st' := []) (M' := M) (P := True) 6 rfl trivial ?_
                        refine WX.forget2 (L' := [some (.ref 37), some (.ref 49), some (.int x2), some (.int (x3 + 1)), some (.int (x4 + 1)), none]) ?_ ⟨Or.inr rfl, Or.inr rfl, Or.inr rfl, Or.inr rfl, Or.inr rfl, Or.inl rfl, trivial⟩
                        exact (h104 c1 c2 c3 c4 c14 c24 c34 c36 c38 c40 c42)
theorem sg_M_seam_37_0 {Q : Option Value → Mem → Prop} (M : Mem)
    (h1 : WX mi_M_seam 4 Q 4 [some (.ref 37), some (.int 0), some (.int 1), none, none, none, none, none] [] M) :
    WX mi_M_seam 4 Q 0 [some (.ref 37), none, none, none, none, none, none, none] [] M := by
  refine WX.run (pc' := 4) (L' := [some (.ref 37), some (.int 0), some (.int 1), none, none, none, none, none]) (st' := []) (M' := M) (P := True) 4 rfl trivial ?_
  exact h1
theorem sg_M_seam_37_4 {Q : Option Value → Mem → Prop} (M : Mem) (x1 x2 : Int32)
    (h1 : 2 < x2 → Q (some (.int x1)) M)
    (h2 : ¬ 2 < x2 → WX mi_M_seam 4 Q 11 [some (.ref 37), some (.int x1), some (.int x2), some (.int 0), none, none, none, none] [] M) :
    WX mi_M_seam 4 Q 4 [some (.ref 37), some (.int x1), some (.int x2), none, none, none, none, none] [] M := by
  refine WX.run (pc' := 6) (L' := [some (.ref 37), some (.int x1), some (.int x2), none, none, none, none, none]) (st' := [.int 2, .int x2]) (M' := M) (P := True) 2 rfl trivial ?_
  refine WX.icmp_gt (off := 131) (tgt := 137) rfl rfl (fun c1 => ?_) (fun c1 => ?_)
  · refine WX.run (pc' := 138) (L' := [some (.ref 37), some (.int x1), some (.int x2), none, none, none, none, none]) (st' := [.int x1]) (M' := M) (P := True) 1 rfl trivial ?_
    exact WX.iret rfl rfl (h1 c1)
  · refine WX.run (pc' := 11) (L' := [some (.ref 37), some (.int x1), some (.int x2), some (.int 0), none, none, none, none]) (st' := []) (M' := M) (P := True) 2 rfl trivial ?_
    exact (h2 c1)
theorem sg_M_seam_37_11 {Q : Option Value → Mem → Prop} (M : Mem) (x1 x2 x3 : Int32)
    (h1 : 4 ≤ x3 → WX mi_M_seam 4 Q 4 [some (.ref 37), some (.int x1), some (.int (x2 + 1)), none, none, none, none, none] [] M)
    (h2 : ¬ 4 ≤ x3 → WX mi_M_seam 4 Q 22 [some (.ref 37), some (.int x1), some (.int x2), some (.int x3), some (.int 0), some (.int 0), none, none] [] M) :
    WX mi_M_seam 4 Q 11 [some (.ref 37), some (.int x1), some (.int x2), some (.int x3), none, none, none, none] [] M := by
  refine WX.run (pc' := 13) (L' := [some (.ref 37), some (.int x1), some (.int x2), some (.int x3), none, none, none, none]) (st' := [.int 4, .int x3]) (M' := M) (P := True) 2 rfl trivial ?_
  refine WX.icmp_ge (off := 118) (tgt := 131) rfl rfl (fun c1 => ?_) (fun c1 => ?_)
  · refine WX.run (pc' := 4) (L' := [some (.ref 37), some (.int x1), some (.int (x2 + 1)), some (.int x3), none, none, none, none]) (st' := []) (M' := M) (P := True) 2 rfl trivial ?_
    refine WX.forget2 (L' := [some (.ref 37), some (.int x1), some (.int (x2 + 1)), none, none, none, none, none]) ?_ ⟨Or.inr rfl, Or.inr rfl, Or.inr rfl, Or.inl rfl, Or.inr rfl, Or.inr rfl, Or.inr rfl, Or.inr rfl, trivial⟩
    exact (h1 c1)
  · refine WX.run (pc' := 22) (L' := [some (.ref 37), some (.int x1), some (.int x2), some (.int x3), some (.int 0), some (.int 0), none, none]) (st' := []) (M' := M) (P := True) 4 rfl trivial ?_
    exact (h2 c1)
theorem sg_M_seam_37_22 {Q : Option Value → Mem → Prop} (M : Mem) (x1 x2 x3 x4 x5 : Int32)
    (h1 : 4 ≤ x5 → WX mi_M_seam 4 Q 11 [some (.ref 37), some (.int x1), some (.int x2), some (.int (x3 + 1)), none, none, none, none] [] M)
    (b2 : ¬ 4 ≤ x5 → ¬ x2 = 1 → ((z_M_isCell_37 M (rem ((4 * x3) + x5) 4) (((4 * x3) + x5) / 4)) = 0 ∨ (z_M_isCell_37 M (rem ((4 * x3) + x5) 4) (((4 * x3) + x5) / 4)) = 1))
    (h3 : ¬ 4 ≤ x5 → ¬ x2 = 1 → (z_M_isThere_37 M ((4 * x3) + x5)) = 0 → (-9) = (-9) → 0 ≤ x1 → WX mi_M_seam 4 Q 22 [some (.ref 37), some (.int x1), some (.int x2), some (.int x3), some (.int 0), some (.int (x5 + 1)), none, none] [] M)
    (h4 : ¬ 4 ≤ x5 → ¬ x2 = 1 → (z_M_isThere_37 M ((4 * x3) + x5)) = 0 → (-9) = (-9) → ¬ 0 ≤ x1 → WX mi_M_seam 4 Q 22 [some (.ref 37), some (.int 0), some (.int x2), some (.int x3), some (.int 0), some (.int (x5 + 1)), none, none] [] M)
    (b5 : ¬ 4 ≤ x5 → ¬ x2 = 1 → (z_M_isThere_37 M ((4 * x3) + x5)) = 0 → ¬ (-9) = (-9) → vp_in (16 + ((4 * x3) + x5)) 1257)
    (b6 : ¬ 4 ≤ x5 → ¬ x2 = 1 → (z_M_isThere_37 M ((4 * x3) + x5)) = 0 → ¬ (-9) = (-9) → ¬ (M.1 46 (16 + ((4 * x3) + x5)).toNatClampNeg) = (-9) → vp_in (16 + (-9)) 1257)
    (b7 : ¬ 4 ≤ x5 → ¬ x2 = 1 → (z_M_isThere_37 M ((4 * x3) + x5)) = 0 → ¬ (-9) = (-9) → ¬ (M.1 46 (16 + ((4 * x3) + x5)).toNatClampNeg) = (-9) → ¬ (M.1 46 (16 + (-9)).toNatClampNeg) = (-9) → vp_in (16 + ((4 * x3) + x5)) 1257)
    (b8 : ¬ 4 ≤ x5 → ¬ x2 = 1 → (z_M_isThere_37 M ((4 * x3) + x5)) = 0 → ¬ (-9) = (-9) → ¬ (M.1 46 (16 + ((4 * x3) + x5)).toNatClampNeg) = (-9) → ¬ (M.1 46 (16 + (-9)).toNatClampNeg) = (-9) → vp_in (16 + (-9)) 1257)
    (h9 : ¬ 4 ≤ x5 → ¬ x2 = 1 → (z_M_isThere_37 M ((4 * x3) + x5)) = 0 → ¬ (-9) = (-9) → (z_M_part_46 M 16 ((4 * x3) + x5) (-9)) = 0 → 0 ≤ x1 → WX mi_M_seam 4 Q 22 [some (.ref 37), some (.int x1), some (.int x2), some (.int x3), some (.int 0), some (.int (x5 + 1)), none, none] [] M)
    (h10 : ¬ 4 ≤ x5 → ¬ x2 = 1 → (z_M_isThere_37 M ((4 * x3) + x5)) = 0 → ¬ (-9) = (-9) → (z_M_part_46 M 16 ((4 * x3) + x5) (-9)) = 0 → ¬ 0 ≤ x1 → WX mi_M_seam 4 Q 22 [some (.ref 37), some (.int 0), some (.int x2), some (.int x3), some (.int 0), some (.int (x5 + 1)), none, none] [] M)
    (h11 : ¬ 4 ≤ x5 → ¬ x2 = 1 → (z_M_isThere_37 M ((4 * x3) + x5)) = 0 → ¬ (-9) = (-9) → ¬ (z_M_part_46 M 16 ((4 * x3) + x5) (-9)) = 0 → (x4 + 1) ≤ x1 → WX mi_M_seam 4 Q 22 [some (.ref 37), some (.int x1), some (.int x2), some (.int x3), some (.int (x4 + 1)), some (.int (x5 + 1)), none, none] [] M)
    (h12 : ¬ 4 ≤ x5 → ¬ x2 = 1 → (z_M_isThere_37 M ((4 * x3) + x5)) = 0 → ¬ (-9) = (-9) → ¬ (z_M_part_46 M 16 ((4 * x3) + x5) (-9)) = 0 → ¬ (x4 + 1) ≤ x1 → WX mi_M_seam 4 Q 22 [some (.ref 37), some (.int (x4 + 1)), some (.int x2), some (.int x3), some (.int (x4 + 1)), some (.int (x5 + 1)), none, none] [] M)
    (h13 : ¬ 4 ≤ x5 → ¬ x2 = 1 → ¬ (z_M_isThere_37 M ((4 * x3) + x5)) = 0 → (z_M_beside_37 M ((4 * x3) + x5) x2) = (-9) → 0 ≤ x1 → WX mi_M_seam 4 Q 22 [some (.ref 37), some (.int x1), some (.int x2), some (.int x3), some (.int 0), some (.int (x5 + 1)), none, none] [] M)
    (h14 : ¬ 4 ≤ x5 → ¬ x2 = 1 → ¬ (z_M_isThere_37 M ((4 * x3) + x5)) = 0 → (z_M_beside_37 M ((4 * x3) + x5) x2) = (-9) → ¬ 0 ≤ x1 → WX mi_M_seam 4 Q 22 [some (.ref 37), some (.int 0), some (.int x2), some (.int x3), some (.int 0), some (.int (x5 + 1)), none, none] [] M)
    (b15 : ¬ 4 ≤ x5 → ¬ x2 = 1 → ¬ (z_M_isThere_37 M ((4 * x3) + x5)) = 0 → ¬ (z_M_beside_37 M ((4 * x3) + x5) x2) = (-9) → vp_in (16 + ((4 * x3) + x5)) 1257)
    (b16 : ¬ 4 ≤ x5 → ¬ x2 = 1 → ¬ (z_M_isThere_37 M ((4 * x3) + x5)) = 0 → ¬ (z_M_beside_37 M ((4 * x3) + x5) x2) = (-9) → ¬ (M.1 46 (16 + ((4 * x3) + x5)).toNatClampNeg) = (-9) → vp_in (16 + (z_M_beside_37 M ((4 * x3) + x5) x2)) 1257)
    (b17 : ¬ 4 ≤ x5 → ¬ x2 = 1 → ¬ (z_M_isThere_37 M ((4 * x3) + x5)) = 0 → ¬ (z_M_beside_37 M ((4 * x3) + x5) x2) = (-9) → ¬ (M.1 46 (16 + ((4 * x3) + x5)).toNatClampNeg) = (-9) → ¬ (M.1 46 (16 + (z_M_beside_37 M ((4 * x3) + x5) x2)).toNatClampNeg) = (-9) → vp_in (16 + ((4 * x3) + x5)) 1257)
    (b18 : ¬ 4 ≤ x5 → ¬ x2 = 1 → ¬ (z_M_isThere_37 M ((4 * x3) + x5)) = 0 → ¬ (z_M_beside_37 M ((4 * x3) + x5) x2) = (-9) → ¬ (M.1 46 (16 + ((4 * x3) + x5)).toNatClampNeg) = (-9) → ¬ (M.1 46 (16 + (z_M_beside_37 M ((4 * x3) + x5) x2)).toNatClampNeg) = (-9) → vp_in (16 + (z_M_beside_37 M ((4 * x3) + x5) x2)) 1257)
    (h19 : ¬ 4 ≤ x5 → ¬ x2 = 1 → ¬ (z_M_isThere_37 M ((4 * x3) + x5)) = 0 → ¬ (z_M_beside_37 M ((4 * x3) + x5) x2) = (-9) → (z_M_part_46 M 16 ((4 * x3) + x5) (z_M_beside_37 M ((4 * x3) + x5) x2)) = 0 → 0 ≤ x1 → WX mi_M_seam 4 Q 22 [some (.ref 37), some (.int x1), some (.int x2), some (.int x3), some (.int 0), some (.int (x5 + 1)), none, none] [] M)
    (h20 : ¬ 4 ≤ x5 → ¬ x2 = 1 → ¬ (z_M_isThere_37 M ((4 * x3) + x5)) = 0 → ¬ (z_M_beside_37 M ((4 * x3) + x5) x2) = (-9) → (z_M_part_46 M 16 ((4 * x3) + x5) (z_M_beside_37 M ((4 * x3) + x5) x2)) = 0 → ¬ 0 ≤ x1 → WX mi_M_seam 4 Q 22 [some (.ref 37), some (.int 0), some (.int x2), some (.int x3), some (.int 0), some (.int (x5 + 1)), none, none] [] M)
    (h21 : ¬ 4 ≤ x5 → ¬ x2 = 1 → ¬ (z_M_isThere_37 M ((4 * x3) + x5)) = 0 → ¬ (z_M_beside_37 M ((4 * x3) + x5) x2) = (-9) → ¬ (z_M_part_46 M 16 ((4 * x3) + x5) (z_M_beside_37 M ((4 * x3) + x5) x2)) = 0 → (x4 + 1) ≤ x1 → WX mi_M_seam 4 Q 22 [some (.ref 37), some (.int x1), some (.int x2), some (.int x3), some (.int (x4 + 1)), some (.int (x5 + 1)), none, none] [] M)
    (h22 : ¬ 4 ≤ x5 → ¬ x2 = 1 → ¬ (z_M_isThere_37 M ((4 * x3) + x5)) = 0 → ¬ (z_M_beside_37 M ((4 * x3) + x5) x2) = (-9) → ¬ (z_M_part_46 M 16 ((4 * x3) + x5) (z_M_beside_37 M ((4 * x3) + x5) x2)) = 0 → ¬ (x4 + 1) ≤ x1 → WX mi_M_seam 4 Q 22 [some (.ref 37), some (.int (x4 + 1)), some (.int x2), some (.int x3), some (.int (x4 + 1)), some (.int (x5 + 1)), none, none] [] M)
    (b23 : ¬ 4 ≤ x5 → x2 = 1 → ((z_M_isCell_37 M (rem ((4 * x5) + x3) 4) (((4 * x5) + x3) / 4)) = 0 ∨ (z_M_isCell_37 M (rem ((4 * x5) + x3) 4) (((4 * x5) + x3) / 4)) = 1))
    (h24 : ¬ 4 ≤ x5 → x2 = 1 → (z_M_isThere_37 M ((4 * x5) + x3)) = 0 → (-9) = (-9) → 0 ≤ x1 → WX mi_M_seam 4 Q 22 [some (.ref 37), some (.int x1), some (.int x2), some (.int x3), some (.int 0), some (.int (x5 + 1)), none, none] [] M)
    (h25 : ¬ 4 ≤ x5 → x2 = 1 → (z_M_isThere_37 M ((4 * x5) + x3)) = 0 → (-9) = (-9) → ¬ 0 ≤ x1 → WX mi_M_seam 4 Q 22 [some (.ref 37), some (.int 0), some (.int x2), some (.int x3), some (.int 0), some (.int (x5 + 1)), none, none] [] M)
    (b26 : ¬ 4 ≤ x5 → x2 = 1 → (z_M_isThere_37 M ((4 * x5) + x3)) = 0 → ¬ (-9) = (-9) → vp_in (16 + ((4 * x5) + x3)) 1257)
    (b27 : ¬ 4 ≤ x5 → x2 = 1 → (z_M_isThere_37 M ((4 * x5) + x3)) = 0 → ¬ (-9) = (-9) → ¬ (M.1 46 (16 + ((4 * x5) + x3)).toNatClampNeg) = (-9) → vp_in (16 + (-9)) 1257)
    (b28 : ¬ 4 ≤ x5 → x2 = 1 → (z_M_isThere_37 M ((4 * x5) + x3)) = 0 → ¬ (-9) = (-9) → ¬ (M.1 46 (16 + ((4 * x5) + x3)).toNatClampNeg) = (-9) → ¬ (M.1 46 (16 + (-9)).toNatClampNeg) = (-9) → vp_in (16 + ((4 * x5) + x3)) 1257)
    (b29 : ¬ 4 ≤ x5 → x2 = 1 → (z_M_isThere_37 M ((4 * x5) + x3)) = 0 → ¬ (-9) = (-9) → ¬ (M.1 46 (16 + ((4 * x5) + x3)).toNatClampNeg) = (-9) → ¬ (M.1 46 (16 + (-9)).toNatClampNeg) = (-9) → vp_in (16 + (-9)) 1257)
    (h30 : ¬ 4 ≤ x5 → x2 = 1 → (z_M_isThere_37 M ((4 * x5) + x3)) = 0 → ¬ (-9) = (-9) → (z_M_part_46 M 16 ((4 * x5) + x3) (-9)) = 0 → 0 ≤ x1 → WX mi_M_seam 4 Q 22 [some (.ref 37), some (.int x1), some (.int x2), some (.int x3), some (.int 0), some (.int (x5 + 1)), none, none] [] M)
    (h31 : ¬ 4 ≤ x5 → x2 = 1 → (z_M_isThere_37 M ((4 * x5) + x3)) = 0 → ¬ (-9) = (-9) → (z_M_part_46 M 16 ((4 * x5) + x3) (-9)) = 0 → ¬ 0 ≤ x1 → WX mi_M_seam 4 Q 22 [some (.ref 37), some (.int 0), some (.int x2), some (.int x3), some (.int 0), some (.int (x5 + 1)), none, none] [] M)
    (h32 : ¬ 4 ≤ x5 → x2 = 1 → (z_M_isThere_37 M ((4 * x5) + x3)) = 0 → ¬ (-9) = (-9) → ¬ (z_M_part_46 M 16 ((4 * x5) + x3) (-9)) = 0 → (x4 + 1) ≤ x1 → WX mi_M_seam 4 Q 22 [some (.ref 37), some (.int x1), some (.int x2), some (.int x3), some (.int (x4 + 1)), some (.int (x5 + 1)), none, none] [] M)
    (h33 : ¬ 4 ≤ x5 → x2 = 1 → (z_M_isThere_37 M ((4 * x5) + x3)) = 0 → ¬ (-9) = (-9) → ¬ (z_M_part_46 M 16 ((4 * x5) + x3) (-9)) = 0 → ¬ (x4 + 1) ≤ x1 → WX mi_M_seam 4 Q 22 [some (.ref 37), some (.int (x4 + 1)), some (.int x2), some (.int x3), some (.int (x4 + 1)), some (.int (x5 + 1)), none, none] [] M)
    (h34 : ¬ 4 ≤ x5 → x2 = 1 → ¬ (z_M_isThere_37 M ((4 * x5) + x3)) = 0 → (z_M_beside_37 M ((4 * x5) + x3) x2) = (-9) → 0 ≤ x1 → WX mi_M_seam 4 Q 22 [some (.ref 37), some (.int x1), some (.int x2), some (.int x3), some (.int 0), some (.int (x5 + 1)), none, none] [] M)
    (h35 : ¬ 4 ≤ x5 → x2 = 1 → ¬ (z_M_isThere_37 M ((4 * x5) + x3)) = 0 → (z_M_beside_37 M ((4 * x5) + x3) x2) = (-9) → ¬ 0 ≤ x1 → WX mi_M_seam 4 Q 22 [some (.ref 37), some (.int 0), some (.int x2), some (.int x3), some (.int 0), some (.int (x5 + 1)), none, none] [] M)
    (b36 : ¬ 4 ≤ x5 → x2 = 1 → ¬ (z_M_isThere_37 M ((4 * x5) + x3)) = 0 → ¬ (z_M_beside_37 M ((4 * x5) + x3) x2) = (-9) → vp_in (16 + ((4 * x5) + x3)) 1257)
    (b37 : ¬ 4 ≤ x5 → x2 = 1 → ¬ (z_M_isThere_37 M ((4 * x5) + x3)) = 0 → ¬ (z_M_beside_37 M ((4 * x5) + x3) x2) = (-9) → ¬ (M.1 46 (16 + ((4 * x5) + x3)).toNatClampNeg) = (-9) → vp_in (16 + (z_M_beside_37 M ((4 * x5) + x3) x2)) 1257)
    (b38 : ¬ 4 ≤ x5 → x2 = 1 → ¬ (z_M_isThere_37 M ((4 * x5) + x3)) = 0 → ¬ (z_M_beside_37 M ((4 * x5) + x3) x2) = (-9) → ¬ (M.1 46 (16 + ((4 * x5) + x3)).toNatClampNeg) = (-9) → ¬ (M.1 46 (16 + (z_M_beside_37 M ((4 * x5) + x3) x2)).toNatClampNeg) = (-9) → vp_in (16 + ((4 * x5) + x3)) 1257)
    (b39 : ¬ 4 ≤ x5 → x2 = 1 → ¬ (z_M_isThere_37 M ((4 * x5) + x3)) = 0 → ¬ (z_M_beside_37 M ((4 * x5) + x3) x2) = (-9) → ¬ (M.1 46 (16 + ((4 * x5) + x3)).toNatClampNeg) = (-9) → ¬ (M.1 46 (16 + (z_M_beside_37 M ((4 * x5) + x3) x2)).toNatClampNeg) = (-9) → vp_in (16 + (z_M_beside_37 M ((4 * x5) + x3) x2)) 1257)
    (h40 : ¬ 4 ≤ x5 → x2 = 1 → ¬ (z_M_isThere_37 M ((4 * x5) + x3)) = 0 → ¬ (z_M_beside_37 M ((4 * x5) + x3) x2) = (-9) → (z_M_part_46 M 16 ((4 * x5) + x3) (z_M_beside_37 M ((4 * x5) + x3) x2)) = 0 → 0 ≤ x1 → WX mi_M_seam 4 Q 22 [some (.ref 37), some (.int x1), some (.int x2), some (.int x3), some (.int 0), some (.int (x5 + 1)), none, none] [] M)
    (h41 : ¬ 4 ≤ x5 → x2 = 1 → ¬ (z_M_isThere_37 M ((4 * x5) + x3)) = 0 → ¬ (z_M_beside_37 M ((4 * x5) + x3) x2) = (-9) → (z_M_part_46 M 16 ((4 * x5) + x3) (z_M_beside_37 M ((4 * x5) + x3) x2)) = 0 → ¬ 0 ≤ x1 → WX mi_M_seam 4 Q 22 [some (.ref 37), some (.int 0), some (.int x2), some (.int x3), some (.int 0), some (.int (x5 + 1)), none, none] [] M)
    (h42 : ¬ 4 ≤ x5 → x2 = 1 → ¬ (z_M_isThere_37 M ((4 * x5) + x3)) = 0 → ¬ (z_M_beside_37 M ((4 * x5) + x3) x2) = (-9) → ¬ (z_M_part_46 M 16 ((4 * x5) + x3) (z_M_beside_37 M ((4 * x5) + x3) x2)) = 0 → (x4 + 1) ≤ x1 → WX mi_M_seam 4 Q 22 [some (.ref 37), some (.int x1), some (.int x2), some (.int x3), some (.int (x4 + 1)), some (.int (x5 + 1)), none, none] [] M)
    (h43 : ¬ 4 ≤ x5 → x2 = 1 → ¬ (z_M_isThere_37 M ((4 * x5) + x3)) = 0 → ¬ (z_M_beside_37 M ((4 * x5) + x3) x2) = (-9) → ¬ (z_M_part_46 M 16 ((4 * x5) + x3) (z_M_beside_37 M ((4 * x5) + x3) x2)) = 0 → ¬ (x4 + 1) ≤ x1 → WX mi_M_seam 4 Q 22 [some (.ref 37), some (.int (x4 + 1)), some (.int x2), some (.int x3), some (.int (x4 + 1)), some (.int (x5 + 1)), none, none] [] M) :
    WX mi_M_seam 4 Q 22 [some (.ref 37), some (.int x1), some (.int x2), some (.int x3), some (.int x4), some (.int x5), none, none] [] M := by
  refine WX.run (pc' := 25) (L' := [some (.ref 37), some (.int x1), some (.int x2), some (.int x3), some (.int x4), some (.int x5), none, none]) (st' := [.int 4, .int x5]) (M' := M) (P := True) 2 rfl trivial ?_
  refine WX.icmp_ge (off := 100) (tgt := 125) rfl rfl (fun c1 => ?_) (fun c1 => ?_)
  · refine WX.run (pc' := 11) (L' := [some (.ref 37), some (.int x1), some (.int x2), some (.int (x3 + 1)), some (.int x4), some (.int x5), none, none]) (st' := []) (M' := M) (P := True) 2 rfl trivial ?_
    refine WX.forget2 (L' := [some (.ref 37), some (.int x1), some (.int x2), some (.int (x3 + 1)), none, none, none, none]) ?_ ⟨Or.inr rfl, Or.inr rfl, Or.inr rfl, Or.inr rfl, Or.inl rfl, Or.inl rfl, Or.inr rfl, Or.inr rfl, trivial⟩
    exact (h1 c1)
  · refine WX.run (pc' := 30) (L' := [some (.ref 37), some (.int x1), some (.int x2), some (.int x3), some (.int x4), some (.int x5), none, none]) (st' := [.int 1, .int x2]) (M' := M) (P := True) 2 rfl trivial ?_
    refine WX.icmp_ne (off := 12) (tgt := 42) rfl rfl (fun c2 => ?_) (fun c2 => ?_)
    · refine WX.run (pc' := 53) (L' := [some (.ref 37), some (.int x1), some (.int x2), some (.int x3), some (.int x4), some (.int x5), some (.int ((4 * x3) + x5)), none]) (st' := [.int ((4 * x3) + x5), .ref 37]) (M' := M) (P := True) 8 rfl trivial ?_
      refine WX.callV (ca := mi_M_isThere) (n := 1) (d' := 3) (st := []) (As := [.int ((4 * x3) + x5)]) (q := 37) rfl lk_7_148 ck_M_isThere cv_M_isThere rfl (by decide) rfl (by decide) ⟨by decide, rfl, by decide⟩ (by intro w hw; simp only [List.mem_cons, List.not_mem_nil, or_false] at hw; rcases hw with rfl <;> rfl) (by decide) ?_
      refine wx_M_isThere_37 M ((4 * x3) + x5) (b2 c1 c2) ?_
      show WX mi_M_seam 4 Q 56 [some (.ref 37), some (.int x1), some (.int x2), some (.int x3), some (.int x4), some (.int x5), some (.int ((4 * x3) + x5)), none] [.int (z_M_isThere_37 M ((4 * x3) + x5))] M
      refine WX.if_eq (off := 13) (tgt := 69) rfl rfl (fun c3 => ?_) (fun c3 => ?_)
      · refine WX.run (pc' := 77) (L' := [some (.ref 37), some (.int x1), some (.int x2), some (.int x3), some (.int x4), some (.int x5), some (.int ((4 * x3) + x5)), some (.int (-9))]) (st' := [.int (-9), .int (-9)]) (M' := M) (P := True) 4 rfl trivial ?_
        refine WX.icmp_eq (off := 26) (tgt := 103) rfl rfl (fun c4 => ?_) (fun c4 => ?_)
        · refine WX.run (pc' := 109) (L' := [some (.ref 37), some (.int x1), some (.int x2), some (.int x3), some (.int 0), some (.int x5), some (.int ((4 * x3) + x5)), some (.int (-9))]) (st' := [.int x1, .int 0]) (M' := M) (P := True) 4 rfl trivial ?_
          refine WX.icmp_le (off := 8) (tgt := 117) rfl rfl (fun c5 => ?_) (fun c5 => ?_)
          · refine WX.run (pc' := 22) (L' := [some (.ref 37), some (.int x1), some (.int x2), some (.int x3), some (.int 0), some (.int (x5 + 1)), some (.int ((4 * x3) + x5)), some (.int (-9))]) (st' := []) (M' := M) (P := True) 4 rfl trivial ?_
            refine WX.forget2 (L' := [some (.ref 37), some (.int x1), some (.int x2), some (.int x3), some (.int 0), some (.int (x5 + 1)), none, none]) ?_ ⟨Or.inr rfl, Or.inr rfl, Or.inr rfl, Or.inr rfl, Or.inr rfl, Or.inr rfl, Or.inl rfl, Or.inl rfl, trivial⟩
            exact (h3 c1 c2 c3 c4 c5)
          · refine WX.run (pc' := 22) (L' := [some (.ref 37), some (.int 0), some (.int x2), some (.int x3), some (.int 0), some (.int (x5 + 1)), some (.int ((4 * x3) + x5)), some (.int (-9))]) (st' := []) (M' := M) (P := True) 5 rfl trivial ?_
            refine WX.forget2 (L' := [some (.ref 37), some (.int 0), some (.int x2), some (.int x3), some (.int 0), some (.int (x5 + 1)), none, none]) ?_ ⟨Or.inr rfl, Or.inr rfl, Or.inr rfl, Or.inr rfl, Or.inr rfl, Or.inr rfl, Or.inl rfl, Or.inl rfl, trivial⟩
            exact (h4 c1 c2 c3 c4 c5)
        · refine WX.run (pc' := 90) (L' := [some (.ref 37), some (.int x1), some (.int x2), some (.int x3), some (.int x4), some (.int x5), some (.int ((4 * x3) + x5)), some (.int (-9))]) (st' := [.int (-9), .int ((4 * x3) + x5), .int 16, .ref 46]) (M' := M) (P := True) 5 rfl trivial ?_
          refine WX.callS (ca := mi_M_part) (n := 4) (d' := 1) (st := []) (As := [.ref 46, .int 16, .int ((4 * x3) + x5), .int (-9)]) rfl lk_7_165 ck_M_part cs_M_part rfl (by decide) rfl (by decide) (by intro w hw; simp only [List.mem_cons, List.not_mem_nil, or_false] at hw; rcases hw with rfl | rfl | rfl | rfl <;> rfl) (by decide) ?_
          refine wx_M_part_46 M 16 ((4 * x3) + x5) (-9) (b5 c1 c2 c3 c4) (b6 c1 c2 c3 c4) (b7 c1 c2 c3 c4) (b8 c1 c2 c3 c4) ?_
          show WX mi_M_seam 4 Q 93 [some (.ref 37), some (.int x1), some (.int x2), some (.int x3), some (.int x4), some (.int x5), some (.int ((4 * x3) + x5)), some (.int (-9))] [.int (z_M_part_46 M 16 ((4 * x3) + x5) (-9))] M
          refine WX.if_eq (off := 10) (tgt := 103) rfl rfl (fun c6 => ?_) (fun c6 => ?_)
          · refine WX.run (pc' := 109) (L' := [some (.ref 37), some (.int x1), some (.int x2), some (.int x3), some (.int 0), some (.int x5), some (.int ((4 * x3) + x5)), some (.int (-9))]) (st' := [.int x1, .int 0]) (M' := M) (P := True) 4 rfl trivial ?_
            refine WX.icmp_le (off := 8) (tgt := 117) rfl rfl (fun c7 => ?_) (fun c7 => ?_)
            · refine WX.run (pc' := 22) (L' := [some (.ref 37), some (.int x1), some (.int x2), some (.int x3), some (.int 0), some (.int (x5 + 1)), some (.int ((4 * x3) + x5)), some (.int (-9))]) (st' := []) (M' := M) (P := True) 4 rfl trivial ?_
              refine WX.forget2 (L' := [some (.ref 37), some (.int x1), some (.int x2), some (.int x3), some (.int 0), some (.int (x5 + 1)), none, none]) ?_ ⟨Or.inr rfl, Or.inr rfl, Or.inr rfl, Or.inr rfl, Or.inr rfl, Or.inr rfl, Or.inl rfl, Or.inl rfl, trivial⟩
              exact (h9 c1 c2 c3 c4 c6 c7)
            · refine WX.run (pc' := 22) (L' := [some (.ref 37), some (.int 0), some (.int x2), some (.int x3), some (.int 0), some (.int (x5 + 1)), some (.int ((4 * x3) + x5)), some (.int (-9))]) (st' := []) (M' := M) (P := True) 5 rfl trivial ?_
              refine WX.forget2 (L' := [some (.ref 37), some (.int 0), some (.int x2), some (.int x3), some (.int 0), some (.int (x5 + 1)), none, none]) ?_ ⟨Or.inr rfl, Or.inr rfl, Or.inr rfl, Or.inr rfl, Or.inr rfl, Or.inr rfl, Or.inl rfl, Or.inl rfl, trivial⟩
              exact (h10 c1 c2 c3 c4 c6 c7)
          · refine WX.run (pc' := 109) (L' := [some (.ref 37), some (.int x1), some (.int x2), some (.int x3), some (.int (x4 + 1)), some (.int x5), some (.int ((4 * x3) + x5)), some (.int (-9))]) (st' := [.int x1, .int (x4 + 1)]) (M' := M) (P := True) 7 rfl trivial ?_
            refine WX.icmp_le (off := 8) (tgt := 117) rfl rfl (fun c8 => ?_) (fun c8 => ?_)
            · refine WX.run (pc' := 22) (L' := [some (.ref 37), some (.int x1), some (.int x2), some (.int x3), some (.int (x4 + 1)), some (.int (x5 + 1)), some (.int ((4 * x3) + x5)), some (.int (-9))]) (st' := []) (M' := M) (P := True) 4 rfl trivial ?_
              refine WX.forget2 (L' := [some (.ref 37), some (.int x1), some (.int x2), some (.int x3), some (.int (x4 + 1)), some (.int (x5 + 1)), none, none]) ?_ ⟨Or.inr rfl, Or.inr rfl, Or.inr rfl, Or.inr rfl, Or.inr rfl, Or.inr rfl, Or.inl rfl, Or.inl rfl, trivial⟩
              exact (h11 c1 c2 c3 c4 c6 c8)
            · refine WX.run (pc' := 22) (L' := [some (.ref 37), some (.int (x4 + 1)), some (.int x2), some (.int x3), some (.int (x4 + 1)), some (.int (x5 + 1)), some (.int ((4 * x3) + x5)), some (.int (-9))]) (st' := []) (M' := M) (P := True) 5 rfl trivial ?_
              refine WX.forget2 (L' := [some (.ref 37), some (.int (x4 + 1)), some (.int x2), some (.int x3), some (.int (x4 + 1)), some (.int (x5 + 1)), none, none]) ?_ ⟨Or.inr rfl, Or.inr rfl, Or.inr rfl, Or.inr rfl, Or.inr rfl, Or.inr rfl, Or.inl rfl, Or.inl rfl, trivial⟩
              exact (h12 c1 c2 c3 c4 c6 c8)
      · refine WX.run (pc' := 63) (L' := [some (.ref 37), some (.int x1), some (.int x2), some (.int x3), some (.int x4), some (.int x5), some (.int ((4 * x3) + x5)), none]) (st' := [.int x2, .int ((4 * x3) + x5), .ref 37]) (M' := M) (P := True) 3 rfl trivial ?_
        refine WX.callV (ca := mi_M_beside) (n := 2) (d' := 3) (st := []) (As := [.int ((4 * x3) + x5), .int x2]) (q := 37) rfl lk_7_169 ck_M_beside cv_M_beside rfl (by decide) rfl (by decide) ⟨by decide, rfl, by decide⟩ (by intro w hw; simp only [List.mem_cons, List.not_mem_nil, or_false] at hw; rcases hw with rfl | rfl <;> rfl) (by decide) ?_
        refine wx_M_beside_37 M ((4 * x3) + x5) x2 ?_
        show WX mi_M_seam 4 Q 66 [some (.ref 37), some (.int x1), some (.int x2), some (.int x3), some (.int x4), some (.int x5), some (.int ((4 * x3) + x5)), none] [.int (z_M_beside_37 M ((4 * x3) + x5) x2)] M
        refine WX.run (pc' := 77) (L' := [some (.ref 37), some (.int x1), some (.int x2), some (.int x3), some (.int x4), some (.int x5), some (.int ((4 * x3) + x5)), some (.int (z_M_beside_37 M ((4 * x3) + x5) x2))]) (st' := [.int (-9), .int (z_M_beside_37 M ((4 * x3) + x5) x2)]) (M' := M) (P := True) 4 rfl trivial ?_
        refine WX.icmp_eq (off := 26) (tgt := 103) rfl rfl (fun c9 => ?_) (fun c9 => ?_)
        · refine WX.run (pc' := 109) (L' := [some (.ref 37), some (.int x1), some (.int x2), some (.int x3), some (.int 0), some (.int x5), some (.int ((4 * x3) + x5)), some (.int (z_M_beside_37 M ((4 * x3) + x5) x2))]) (st' := [.int x1, .int 0]) (M' := M) (P := True) 4 rfl trivial ?_
          refine WX.icmp_le (off := 8) (tgt := 117) rfl rfl (fun c10 => ?_) (fun c10 => ?_)
          · refine WX.run (pc' := 22) (L' := [some (.ref 37), some (.int x1), some (.int x2), some (.int x3), some (.int 0), some (.int (x5 + 1)), some (.int ((4 * x3) + x5)), some (.int (z_M_beside_37 M ((4 * x3) + x5) x2))]) (st' := []) (M' := M) (P := True) 4 rfl trivial ?_
            refine WX.forget2 (L' := [some (.ref 37), some (.int x1), some (.int x2), some (.int x3), some (.int 0), some (.int (x5 + 1)), none, none]) ?_ ⟨Or.inr rfl, Or.inr rfl, Or.inr rfl, Or.inr rfl, Or.inr rfl, Or.inr rfl, Or.inl rfl, Or.inl rfl, trivial⟩
            exact (h13 c1 c2 c3 c9 c10)
          · refine WX.run (pc' := 22) (L' := [some (.ref 37), some (.int 0), some (.int x2), some (.int x3), some (.int 0), some (.int (x5 + 1)), some (.int ((4 * x3) + x5)), some (.int (z_M_beside_37 M ((4 * x3) + x5) x2))]) (st' := []) (M' := M) (P := True) 5 rfl trivial ?_
            refine WX.forget2 (L' := [some (.ref 37), some (.int 0), some (.int x2), some (.int x3), some (.int 0), some (.int (x5 + 1)), none, none]) ?_ ⟨Or.inr rfl, Or.inr rfl, Or.inr rfl, Or.inr rfl, Or.inr rfl, Or.inr rfl, Or.inl rfl, Or.inl rfl, trivial⟩
            exact (h14 c1 c2 c3 c9 c10)
        · refine WX.run (pc' := 90) (L' := [some (.ref 37), some (.int x1), some (.int x2), some (.int x3), some (.int x4), some (.int x5), some (.int ((4 * x3) + x5)), some (.int (z_M_beside_37 M ((4 * x3) + x5) x2))]) (st' := [.int (z_M_beside_37 M ((4 * x3) + x5) x2), .int ((4 * x3) + x5), .int 16, .ref 46]) (M' := M) (P := True) 5 rfl trivial ?_
          refine WX.callS (ca := mi_M_part) (n := 4) (d' := 1) (st := []) (As := [.ref 46, .int 16, .int ((4 * x3) + x5), .int (z_M_beside_37 M ((4 * x3) + x5) x2)]) rfl lk_7_165 ck_M_part cs_M_part rfl (by decide) rfl (by decide) (by intro w hw; simp only [List.mem_cons, List.not_mem_nil, or_false] at hw; rcases hw with rfl | rfl | rfl | rfl <;> rfl) (by decide) ?_
          refine wx_M_part_46 M 16 ((4 * x3) + x5) (z_M_beside_37 M ((4 * x3) + x5) x2) (b15 c1 c2 c3 c9) (b16 c1 c2 c3 c9) (b17 c1 c2 c3 c9) (b18 c1 c2 c3 c9) ?_
          show WX mi_M_seam 4 Q 93 [some (.ref 37), some (.int x1), some (.int x2), some (.int x3), some (.int x4), some (.int x5), some (.int ((4 * x3) + x5)), some (.int (z_M_beside_37 M ((4 * x3) + x5) x2))] [.int (z_M_part_46 M 16 ((4 * x3) + x5) (z_M_beside_37 M ((4 * x3) + x5) x2))] M
          refine WX.if_eq (off := 10) (tgt := 103) rfl rfl (fun c11 => ?_) (fun c11 => ?_)
          · refine WX.run (pc' := 109) (L' := [some (.ref 37), some (.int x1), some (.int x2), some (.int x3), some (.int 0), some (.int x5), some (.int ((4 * x3) + x5)), some (.int (z_M_beside_37 M ((4 * x3) + x5) x2))]) (st' := [.int x1, .int 0]) (M' := M) (P := True) 4 rfl trivial ?_
            refine WX.icmp_le (off := 8) (tgt := 117) rfl rfl (fun c12 => ?_) (fun c12 => ?_)
            · refine WX.run (pc' := 22) (L' := [some (.ref 37), some (.int x1), some (.int x2), some (.int x3), some (.int 0), some (.int (x5 + 1)), some (.int ((4 * x3) + x5)), some (.int (z_M_beside_37 M ((4 * x3) + x5) x2))]) (st' := []) (M' := M) (P := True) 4 rfl trivial ?_
              refine WX.forget2 (L' := [some (.ref 37), some (.int x1), some (.int x2), some (.int x3), some (.int 0), some (.int (x5 + 1)), none, none]) ?_ ⟨Or.inr rfl, Or.inr rfl, Or.inr rfl, Or.inr rfl, Or.inr rfl, Or.inr rfl, Or.inl rfl, Or.inl rfl, trivial⟩
              exact (h19 c1 c2 c3 c9 c11 c12)
            · refine WX.run (pc' := 22) (L' := [some (.ref 37), some (.int 0), some (.int x2), some (.int x3), some (.int 0), some (.int (x5 + 1)), some (.int ((4 * x3) + x5)), some (.int (z_M_beside_37 M ((4 * x3) + x5) x2))]) (st' := []) (M' := M) (P := True) 5 rfl trivial ?_
              refine WX.forget2 (L' := [some (.ref 37), some (.int 0), some (.int x2), some (.int x3), some (.int 0), some (.int (x5 + 1)), none, none]) ?_ ⟨Or.inr rfl, Or.inr rfl, Or.inr rfl, Or.inr rfl, Or.inr rfl, Or.inr rfl, Or.inl rfl, Or.inl rfl, trivial⟩
              exact (h20 c1 c2 c3 c9 c11 c12)
          · refine WX.run (pc' := 109) (L' := [some (.ref 37), some (.int x1), some (.int x2), some (.int x3), some (.int (x4 + 1)), some (.int x5), some (.int ((4 * x3) + x5)), some (.int (z_M_beside_37 M ((4 * x3) + x5) x2))]) (st' := [.int x1, .int (x4 + 1)]) (M' := M) (P := True) 7 rfl trivial ?_
            refine WX.icmp_le (off := 8) (tgt := 117) rfl rfl (fun c13 => ?_) (fun c13 => ?_)
            · refine WX.run (pc' := 22) (L' := [some (.ref 37), some (.int x1), some (.int x2), some (.int x3), some (.int (x4 + 1)), some (.int (x5 + 1)), some (.int ((4 * x3) + x5)), some (.int (z_M_beside_37 M ((4 * x3) + x5) x2))]) (st' := []) (M' := M) (P := True) 4 rfl trivial ?_
              refine WX.forget2 (L' := [some (.ref 37), some (.int x1), some (.int x2), some (.int x3), some (.int (x4 + 1)), some (.int (x5 + 1)), none, none]) ?_ ⟨Or.inr rfl, Or.inr rfl, Or.inr rfl, Or.inr rfl, Or.inr rfl, Or.inr rfl, Or.inl rfl, Or.inl rfl, trivial⟩
              exact (h21 c1 c2 c3 c9 c11 c13)
            · refine WX.run (pc' := 22) (L' := [some (.ref 37), some (.int (x4 + 1)), some (.int x2), some (.int x3), some (.int (x4 + 1)), some (.int (x5 + 1)), some (.int ((4 * x3) + x5)), some (.int (z_M_beside_37 M ((4 * x3) + x5) x2))]) (st' := []) (M' := M) (P := True) 5 rfl trivial ?_
              refine WX.forget2 (L' := [some (.ref 37), some (.int (x4 + 1)), some (.int x2), some (.int x3), some (.int (x4 + 1)), some (.int (x5 + 1)), none, none]) ?_ ⟨Or.inr rfl, Or.inr rfl, Or.inr rfl, Or.inr rfl, Or.inr rfl, Or.inr rfl, Or.inl rfl, Or.inl rfl, trivial⟩
              exact (h22 c1 c2 c3 c9 c11 c13)
    · refine WX.run (pc' := 53) (L' := [some (.ref 37), some (.int x1), some (.int x2), some (.int x3), some (.int x4), some (.int x5), some (.int ((4 * x5) + x3)), none]) (st' := [.int ((4 * x5) + x3), .ref 37]) (M' := M) (P := True) 9 rfl trivial ?_
      refine WX.callV (ca := mi_M_isThere) (n := 1) (d' := 3) (st := []) (As := [.int ((4 * x5) + x3)]) (q := 37) rfl lk_7_148 ck_M_isThere cv_M_isThere rfl (by decide) rfl (by decide) ⟨by decide, rfl, by decide⟩ (by intro w hw; simp only [List.mem_cons, List.not_mem_nil, or_false] at hw; rcases hw with rfl <;> rfl) (by decide) ?_
      refine wx_M_isThere_37 M ((4 * x5) + x3) (b23 c1 c2) ?_
      show WX mi_M_seam 4 Q 56 [some (.ref 37), some (.int x1), some (.int x2), some (.int x3), some (.int x4), some (.int x5), some (.int ((4 * x5) + x3)), none] [.int (z_M_isThere_37 M ((4 * x5) + x3))] M
      refine WX.if_eq (off := 13) (tgt := 69) rfl rfl (fun c14 => ?_) (fun c14 => ?_)
      · refine WX.run (pc' := 77) (L' := [some (.ref 37), some (.int x1), some (.int x2), some (.int x3), some (.int x4), some (.int x5), some (.int ((4 * x5) + x3)), some (.int (-9))]) (st' := [.int (-9), .int (-9)]) (M' := M) (P := True) 4 rfl trivial ?_
        refine WX.icmp_eq (off := 26) (tgt := 103) rfl rfl (fun c15 => ?_) (fun c15 => ?_)
        · refine WX.run (pc' := 109) (L' := [some (.ref 37), some (.int x1), some (.int x2), some (.int x3), some (.int 0), some (.int x5), some (.int ((4 * x5) + x3)), some (.int (-9))]) (st' := [.int x1, .int 0]) (M' := M) (P := True) 4 rfl trivial ?_
          refine WX.icmp_le (off := 8) (tgt := 117) rfl rfl (fun c16 => ?_) (fun c16 => ?_)
          · refine WX.run (pc' := 22) (L' := [some (.ref 37), some (.int x1), some (.int x2), some (.int x3), some (.int 0), some (.int (x5 + 1)), some (.int ((4 * x5) + x3)), some (.int (-9))]) (st' := []) (M' := M) (P := True) 4 rfl trivial ?_
            refine WX.forget2 (L' := [some (.ref 37), some (.int x1), some (.int x2), some (.int x3), some (.int 0), some (.int (x5 + 1)), none, none]) ?_ ⟨Or.inr rfl, Or.inr rfl, Or.inr rfl, Or.inr rfl, Or.inr rfl, Or.inr rfl, Or.inl rfl, Or.inl rfl, trivial⟩
            exact (h24 c1 c2 c14 c15 c16)
          · refine WX.run (pc' := 22) (L' := [some (.ref 37), some (.int 0), some (.int x2), some (.int x3), some (.int 0), some (.int (x5 + 1)), some (.int ((4 * x5) + x3)), some (.int (-9))]) (st' := []) (M' := M) (P := True) 5 rfl trivial ?_
            refine WX.forget2 (L' := [some (.ref 37), some (.int 0), some (.int x2), some (.int x3), some (.int 0), some (.int (x5 + 1)), none, none]) ?_ ⟨Or.inr rfl, Or.inr rfl, Or.inr rfl, Or.inr rfl, Or.inr rfl, Or.inr rfl, Or.inl rfl, Or.inl rfl, trivial⟩
            exact (h25 c1 c2 c14 c15 c16)
        · refine WX.run (pc' := 90) (L' := [some (.ref 37), some (.int x1), some (.int x2), some (.int x3), some (.int x4), some (.int x5), some (.int ((4 * x5) + x3)), some (.int (-9))]) (st' := [.int (-9), .int ((4 * x5) + x3), .int 16, .ref 46]) (M' := M) (P := True) 5 rfl trivial ?_
          refine WX.callS (ca := mi_M_part) (n := 4) (d' := 1) (st := []) (As := [.ref 46, .int 16, .int ((4 * x5) + x3), .int (-9)]) rfl lk_7_165 ck_M_part cs_M_part rfl (by decide) rfl (by decide) (by intro w hw; simp only [List.mem_cons, List.not_mem_nil, or_false] at hw; rcases hw with rfl | rfl | rfl | rfl <;> rfl) (by decide) ?_
          refine wx_M_part_46 M 16 ((4 * x5) + x3) (-9) (b26 c1 c2 c14 c15) (b27 c1 c2 c14 c15) (b28 c1 c2 c14 c15) (b29 c1 c2 c14 c15) ?_
          show WX mi_M_seam 4 Q 93 [some (.ref 37), some (.int x1), some (.int x2), some (.int x3), some (.int x4), some (.int x5), some (.int ((4 * x5) + x3)), some (.int (-9))] [.int (z_M_part_46 M 16 ((4 * x5) + x3) (-9))] M
          refine WX.if_eq (off := 10) (tgt := 103) rfl rfl (fun c17 => ?_) (fun c17 => ?_)
          · refine WX.run (pc' := 109) (L' := [some (.ref 37), some (.int x1), some (.int x2), some (.int x3), some (.int 0), some (.int x5), some (.int ((4 * x5) + x3)), some (.int (-9))]) (st' := [.int x1, .int 0]) (M' := M) (P := True) 4 rfl trivial ?_
            refine WX.icmp_le (off := 8) (tgt := 117) rfl rfl (fun c18 => ?_) (fun c18 => ?_)
            · refine WX.run (pc' := 22) (L' := [some (.ref 37), some (.int x1), some (.int x2), some (.int x3), some (.int 0), some (.int (x5 + 1)), some (.int ((4 * x5) + x3)), some (.int (-9))]) (st' := []) (M' := M) (P := True) 4 rfl trivial ?_
              refine WX.forget2 (L' := [some (.ref 37), some (.int x1), some (.int x2), some (.int x3), some (.int 0), some (.int (x5 + 1)), none, none]) ?_ ⟨Or.inr rfl, Or.inr rfl, Or.inr rfl, Or.inr rfl, Or.inr rfl, Or.inr rfl, Or.inl rfl, Or.inl rfl, trivial⟩
              exact (h30 c1 c2 c14 c15 c17 c18)
            · refine WX.run (pc' := 22) (L' := [some (.ref 37), some (.int 0), some (.int x2), some (.int x3), some (.int 0), some (.int (x5 + 1)), some (.int ((4 * x5) + x3)), some (.int (-9))]) (st' := []) (M' := M) (P := True) 5 rfl trivial ?_
              refine WX.forget2 (L' := [some (.ref 37), some (.int 0), some (.int x2), some (.int x3), some (.int 0), some (.int (x5 + 1)), none, none]) ?_ ⟨Or.inr rfl, Or.inr rfl, Or.inr rfl, Or.inr rfl, Or.inr rfl, Or.inr rfl, Or.inl rfl, Or.inl rfl, trivial⟩
              exact (h31 c1 c2 c14 c15 c17 c18)
          · refine WX.run (pc' := 109) (L' := [some (.ref 37), some (.int x1), some (.int x2), some (.int x3), some (.int (x4 + 1)), some (.int x5), some (.int ((4 * x5) + x3)), some (.int (-9))]) (st' := [.int x1, .int (x4 + 1)]) (M' := M) (P := True) 7 rfl trivial ?_
            refine WX.icmp_le (off := 8) (tgt := 117) rfl rfl (fun c19 => ?_) (fun c19 => ?_)
            · refine WX.run (pc' := 22) (L' := [some (.ref 37), some (.int x1), some (.int x2), some (.int x3), some (.int (x4 + 1)), some (.int (x5 + 1)), some (.int ((4 * x5) + x3)), some (.int (-9))]) (st' := []) (M' := M) (P := True) 4 rfl trivial ?_
              refine WX.forget2 (L' := [some (.ref 37), some (.int x1), some (.int x2), some (.int x3), some (.int (x4 + 1)), some (.int (x5 + 1)), none, none]) ?_ ⟨Or.inr rfl, Or.inr rfl, Or.inr rfl, Or.inr rfl, Or.inr rfl, Or.inr rfl, Or.inl rfl, Or.inl rfl, trivial⟩
              exact (h32 c1 c2 c14 c15 c17 c19)
            · refine WX.run (pc' := 22) (L' := [some (.ref 37), some (.int (x4 + 1)), some (.int x2), some (.int x3), some (.int (x4 + 1)), some (.int (x5 + 1)), some (.int ((4 * x5) + x3)), some (.int (-9))]) (st' := []) (M' := M) (P := True) 5 rfl trivial ?_
              refine WX.forget2 (L' := [some (.ref 37), some (.int (x4 + 1)), some (.int x2), some (.int x3), some (.int (x4 + 1)), some (.int (x5 + 1)), none, none]) ?_ ⟨Or.inr rfl, Or.inr rfl, Or.inr rfl, Or.inr rfl, Or.inr rfl, Or.inr rfl, Or.inl rfl, Or.inl rfl, trivial⟩
              exact (h33 c1 c2 c14 c15 c17 c19)
      · refine WX.run (pc' := 63) (L' := [some (.ref 37), some (.int x1), some (.int x2), some (.int x3), some (.int x4), some (.int x5), some (.int ((4 * x5) + x3)), none]) (st' := [.int x2, .int ((4 * x5) + x3), .ref 37]) (M' := M) (P := True) 3 rfl trivial ?_
        refine WX.callV (ca := mi_M_beside) (n := 2) (d' := 3) (st := []) (As := [.int ((4 * x5) + x3), .int x2]) (q := 37) rfl lk_7_169 ck_M_beside cv_M_beside rfl (by decide) rfl (by decide) ⟨by decide, rfl, by decide⟩ (by intro w hw; simp only [List.mem_cons, List.not_mem_nil, or_false] at hw; rcases hw with rfl | rfl <;> rfl) (by decide) ?_
        refine wx_M_beside_37 M ((4 * x5) + x3) x2 ?_
        show WX mi_M_seam 4 Q 66 [some (.ref 37), some (.int x1), some (.int x2), some (.int x3), some (.int x4), some (.int x5), some (.int ((4 * x5) + x3)), none] [.int (z_M_beside_37 M ((4 * x5) + x3) x2)] M
        refine WX.run (pc' := 77) (L' := [some (.ref 37), some (.int x1), some (.int x2), some (.int x3), some (.int x4), some (.int x5), some (.int ((4 * x5) + x3)), some (.int (z_M_beside_37 M ((4 * x5) + x3) x2))]) (st' := [.int (-9), .int (z_M_beside_37 M ((4 * x5) + x3) x2)]) (M' := M) (P := True) 4 rfl trivial ?_
        refine WX.icmp_eq (off := 26) (tgt := 103) rfl rfl (fun c20 => ?_) (fun c20 => ?_)
        · refine WX.run (pc' := 109) (L' := [some (.ref 37), some (.int x1), some (.int x2), some (.int x3), some (.int 0), some (.int x5), some (.int ((4 * x5) + x3)), some (.int (z_M_beside_37 M ((4 * x5) + x3) x2))]) (st' := [.int x1, .int 0]) (M' := M) (P := True) 4 rfl trivial ?_
          refine WX.icmp_le (off := 8) (tgt := 117) rfl rfl (fun c21 => ?_) (fun c21 => ?_)
          · refine WX.run (pc' := 22) (L' := [some (.ref 37), some (.int x1), some (.int x2), some (.int x3), some (.int 0), some (.int (x5 + 1)), some (.int ((4 * x5) + x3)), some (.int (z_M_beside_37 M ((4 * x5) + x3) x2))]) (st' := []) (M' := M) (P := True) 4 rfl trivial ?_
            refine WX.forget2 (L' := [some (.ref 37), some (.int x1), some (.int x2), some (.int x3), some (.int 0), some (.int (x5 + 1)), none, none]) ?_ ⟨Or.inr rfl, Or.inr rfl, Or.inr rfl, Or.inr rfl, Or.inr rfl, Or.inr rfl, Or.inl rfl, Or.inl rfl, trivial⟩
            exact (h34 c1 c2 c14 c20 c21)
          · refine WX.run (pc' := 22) (L' := [some (.ref 37), some (.int 0), some (.int x2), some (.int x3), some (.int 0), some (.int (x5 + 1)), some (.int ((4 * x5) + x3)), some (.int (z_M_beside_37 M ((4 * x5) + x3) x2))]) (st' := []) (M' := M) (P := True) 5 rfl trivial ?_
            refine WX.forget2 (L' := [some (.ref 37), some (.int 0), some (.int x2), some (.int x3), some (.int 0), some (.int (x5 + 1)), none, none]) ?_ ⟨Or.inr rfl, Or.inr rfl, Or.inr rfl, Or.inr rfl, Or.inr rfl, Or.inr rfl, Or.inl rfl, Or.inl rfl, trivial⟩
            exact (h35 c1 c2 c14 c20 c21)
        · refine WX.run (pc' := 90) (L' := [some (.ref 37), some (.int x1), some (.int x2), some (.int x3), some (.int x4), some (.int x5), some (.int ((4 * x5) + x3)), some (.int (z_M_beside_37 M ((4 * x5) + x3) x2))]) (st' := [.int (z_M_beside_37 M ((4 * x5) + x3) x2), .int ((4 * x5) + x3), .int 16, .ref 46]) (M' := M) (P := True) 5 rfl trivial ?_
          refine WX.callS (ca := mi_M_part) (n := 4) (d' := 1) (st := []) (As := [.ref 46, .int 16, .int ((4 * x5) + x3), .int (z_M_beside_37 M ((4 * x5) + x3) x2)]) rfl lk_7_165 ck_M_part cs_M_part rfl (by decide) rfl (by decide) (by intro w hw; simp only [List.mem_cons, List.not_mem_nil, or_false] at hw; rcases hw with rfl | rfl | rfl | rfl <;> rfl) (by decide) ?_
          refine wx_M_part_46 M 16 ((4 * x5) + x3) (z_M_beside_37 M ((4 * x5) + x3) x2) (b36 c1 c2 c14 c20) (b37 c1 c2 c14 c20) (b38 c1 c2 c14 c20) (b39 c1 c2 c14 c20) ?_
          show WX mi_M_seam 4 Q 93 [some (.ref 37), some (.int x1), some (.int x2), some (.int x3), some (.int x4), some (.int x5), some (.int ((4 * x5) + x3)), some (.int (z_M_beside_37 M ((4 * x5) + x3) x2))] [.int (z_M_part_46 M 16 ((4 * x5) + x3) (z_M_beside_37 M ((4 * x5) + x3) x2))] M
          refine WX.if_eq (off := 10) (tgt := 103) rfl rfl (fun c22 => ?_) (fun c22 => ?_)
          · refine WX.run (pc' := 109) (L' := [some (.ref 37), some (.int x1), some (.int x2), some (.int x3), some (.int 0), some (.int x5), some (.int ((4 * x5) + x3)), some (.int (z_M_beside_37 M ((4 * x5) + x3) x2))]) (st' := [.int x1, .int 0]) (M' := M) (P := True) 4 rfl trivial ?_
            refine WX.icmp_le (off := 8) (tgt := 117) rfl rfl (fun c23 => ?_) (fun c23 => ?_)
            · refine WX.run (pc' := 22) (L' := [some (.ref 37), some (.int x1), some (.int x2), some (.int x3), some (.int 0), some (.int (x5 + 1)), some (.int ((4 * x5) + x3)), some (.int (z_M_beside_37 M ((4 * x5) + x3) x2))]) (st' := []) (M' := M) (P := True) 4 rfl trivial ?_
              refine WX.forget2 (L' := [some (.ref 37), some (.int x1), some (.int x2), some (.int x3), some (.int 0), some (.int (x5 + 1)), none, none]) ?_ ⟨Or.inr rfl, Or.inr rfl, Or.inr rfl, Or.inr rfl, Or.inr rfl, Or.inr rfl, Or.inl rfl, Or.inl rfl, trivial⟩
              exact (h40 c1 c2 c14 c20 c22 c23)
            · refine WX.run (pc' := 22) (L' := [some (.ref 37), some (.int 0), some (.int x2), some (.int x3), some (.int 0), some (.int (x5 + 1)), some (.int ((4 * x5) + x3)), some (.int (z_M_beside_37 M ((4 * x5) + x3) x2))]) (st' := []) (M' := M) (P := True) 5 rfl trivial ?_
              refine WX.forget2 (L' := [some (.ref 37), some (.int 0), some (.int x2), some (.int x3), some (.int 0), some (.int (x5 + 1)), none, none]) ?_ ⟨Or.inr rfl, Or.inr rfl, Or.inr rfl, Or.inr rfl, Or.inr rfl, Or.inr rfl, Or.inl rfl, Or.inl rfl, trivial⟩
              exact (h41 c1 c2 c14 c20 c22 c23)
          · refine WX.run (pc' := 109) (L' := [some (.ref 37), some (.int x1), some (.int x2), some (.int x3), some (.int (x4 + 1)), some (.int x5), some (.int ((4 * x5) + x3)), some (.int (z_M_beside_37 M ((4 * x5) + x3) x2))]) (st' := [.int x1, .int (x4 + 1)]) (M' := M) (P := True) 7 rfl trivial ?_
            refine WX.icmp_le (off := 8) (tgt := 117) rfl rfl (fun c24 => ?_) (fun c24 => ?_)
            · refine WX.run (pc' := 22) (L' := [some (.ref 37), some (.int x1), some (.int x2), some (.int x3), some (.int (x4 + 1)), some (.int (x5 + 1)), some (.int ((4 * x5) + x3)), some (.int (z_M_beside_37 M ((4 * x5) + x3) x2))]) (st' := []) (M' := M) (P := True) 4 rfl trivial ?_
              refine WX.forget2 (L' := [some (.ref 37), some (.int x1), some (.int x2), some (.int x3), some (.int (x4 + 1)), some (.int (x5 + 1)), none, none]) ?_ ⟨Or.inr rfl, Or.inr rfl, Or.inr rfl, Or.inr rfl, Or.inr rfl, Or.inr rfl, Or.inl rfl, Or.inl rfl, trivial⟩
              exact (h42 c1 c2 c14 c20 c22 c24)
            · refine WX.run (pc' := 22) (L' := [some (.ref 37), some (.int (x4 + 1)), some (.int x2), some (.int x3), some (.int (x4 + 1)), some (.int (x5 + 1)), some (.int ((4 * x5) + x3)), some (.int (z_M_beside_37 M ((4 * x5) + x3) x2))]) (st' := []) (M' := M) (P := True) 5 rfl trivial ?_
              refine WX.forget2 (L' := [some (.ref 37), some (.int (x4 + 1)), some (.int x2), some (.int x3), some (.int (x4 + 1)), some (.int (x5 + 1)), none, none]) ?_ ⟨Or.inr rfl, Or.inr rfl, Or.inr rfl, Or.inr rfl, Or.inr rfl, Or.inr rfl, Or.inl rfl, Or.inl rfl, trivial⟩
              exact (h43 c1 c2 c14 c20 c22 c24)
theorem sg_M_doTouch_37_0 {Q : Option Value → Mem → Prop} (M : Mem) (x1 x2 : Int32)
    (h1 : WX mi_M_doTouch 4 Q 5 [some (.ref 37), some (.int x1), some (.int x2), some (.int 0), some (.int 0), none, none] [] M) :
    WX mi_M_doTouch 4 Q 0 [some (.ref 37), some (.int x1), some (.int x2), none, none, none, none] [] M := by
  refine WX.run (pc' := 5) (L' := [some (.ref 37), some (.int x1), some (.int x2), some (.int 0), some (.int 0), none, none]) (st' := []) (M' := M) (P := True) 4 rfl trivial ?_
  exact h1
theorem sg_M_doTouch_37_5 {Q : Option Value → Mem → Prop} (M : Mem) (x1 x2 x3 x4 : Int32)
    (b1 : 16 ≤ x4 → (x3 = 0 ∨ x3 = 1))
    (h2 : 16 ≤ x4 → Q (some (.int x3)) M)
    (h3 : ¬ 16 ≤ x4 → WX mi_M_doTouch 4 Q 15 [some (.ref 37), some (.int x1), some (.int x2), some (.int x3), some (.int x4), some (.int 0), none] [] M) :
    WX mi_M_doTouch 4 Q 5 [some (.ref 37), some (.int x1), some (.int x2), some (.int x3), some (.int x4), none, none] [] M := by
  refine WX.run (pc' := 9) (L' := [some (.ref 37), some (.int x1), some (.int x2), some (.int x3), some (.int x4), none, none]) (st' := [.int 16, .int x4]) (M' := M) (P := True) 2 rfl trivial ?_
  refine WX.icmp_ge (off := 88) (tgt := 97) rfl rfl (fun c1 => ?_) (fun c1 => ?_)
  · refine WX.run (pc' := 98) (L' := [some (.ref 37), some (.int x1), some (.int x2), some (.int x3), some (.int x4), none, none]) (st' := [.int x3]) (M' := M) (P := True) 1 rfl trivial ?_
    exact WX.zret rfl rfl (b1 c1) (h2 c1)
  · refine WX.run (pc' := 15) (L' := [some (.ref 37), some (.int x1), some (.int x2), some (.int x3), some (.int x4), some (.int 0), none]) (st' := []) (M' := M) (P := True) 2 rfl trivial ?_
    exact (h3 c1)
theorem sg_M_doTouch_37_15 {Q : Option Value → Mem → Prop} (M : Mem) (x1 x2 x3 x4 x5 : Int32)
    (h1 : 4 ≤ x5 → WX mi_M_doTouch 4 Q 5 [some (.ref 37), some (.int x1), some (.int x2), some (.int x3), some (.int (x4 + 1)), none, none] [] M)
    (b2 : ¬ 4 ≤ x5 → vp_in (16 + x4) 1257)
    (h3 : ¬ 4 ≤ x5 → ¬ (M.1 46 (16 + x4).toNatClampNeg) = x1 → WX mi_M_doTouch 4 Q 5 [some (.ref 37), some (.int x1), some (.int x2), some (.int x3), some (.int (x4 + 1)), none, none] [] M)
    (b4 : ¬ 4 ≤ x5 → (M.1 46 (16 + x4).toNatClampNeg) = x1 → ((z_M_isCell_37 M (rem x4 4) (x4 / 4)) = 0 ∨ (z_M_isCell_37 M (rem x4 4) (x4 / 4)) = 1))
    (h5 : ¬ 4 ≤ x5 → (M.1 46 (16 + x4).toNatClampNeg) = x1 → (z_M_isThere_37 M x4) = 0 → WX mi_M_doTouch 4 Q 5 [some (.ref 37), some (.int x1), some (.int x2), some (.int x3), some (.int (x4 + 1)), none, none] [] M)
    (h6 : ¬ 4 ≤ x5 → (M.1 46 (16 + x4).toNatClampNeg) = x1 → ¬ (z_M_isThere_37 M x4) = 0 → ¬ x3 = 0 → WX mi_M_doTouch 4 Q 15 [some (.ref 37), some (.int x1), some (.int x2), some (.int 1), some (.int x4), some (.int (x5 + 1)), none] [] M)
    (h7 : ¬ 4 ≤ x5 → (M.1 46 (16 + x4).toNatClampNeg) = x1 → ¬ (z_M_isThere_37 M x4) = 0 → x3 = 0 → (z_M_beside_37 M x4 x5) = (-9) → WX mi_M_doTouch 4 Q 15 [some (.ref 37), some (.int x1), some (.int x2), some (.int 0), some (.int x4), some (.int (x5 + 1)), none] [] M)
    (b8 : ¬ 4 ≤ x5 → (M.1 46 (16 + x4).toNatClampNeg) = x1 → ¬ (z_M_isThere_37 M x4) = 0 → x3 = 0 → ¬ (z_M_beside_37 M x4 x5) = (-9) → vp_in (16 + (z_M_beside_37 M x4 x5)) 1257)
    (h9 : ¬ 4 ≤ x5 → (M.1 46 (16 + x4).toNatClampNeg) = x1 → ¬ (z_M_isThere_37 M x4) = 0 → x3 = 0 → ¬ (z_M_beside_37 M x4 x5) = (-9) → ¬ (M.1 46 (16 + (z_M_beside_37 M x4 x5)).toNatClampNeg) = x2 → WX mi_M_doTouch 4 Q 15 [some (.ref 37), some (.int x1), some (.int x2), some (.int 0), some (.int x4), some (.int (x5 + 1)), none] [] M)
    (h10 : ¬ 4 ≤ x5 → (M.1 46 (16 + x4).toNatClampNeg) = x1 → ¬ (z_M_isThere_37 M x4) = 0 → x3 = 0 → ¬ (z_M_beside_37 M x4 x5) = (-9) → (M.1 46 (16 + (z_M_beside_37 M x4 x5)).toNatClampNeg) = x2 → WX mi_M_doTouch 4 Q 15 [some (.ref 37), some (.int x1), some (.int x2), some (.int 1), some (.int x4), some (.int (x5 + 1)), none] [] M) :
    WX mi_M_doTouch 4 Q 15 [some (.ref 37), some (.int x1), some (.int x2), some (.int x3), some (.int x4), some (.int x5), none] [] M := by
  refine WX.run (pc' := 18) (L' := [some (.ref 37), some (.int x1), some (.int x2), some (.int x3), some (.int x4), some (.int x5), none]) (st' := [.int 4, .int x5]) (M' := M) (P := True) 2 rfl trivial ?_
  refine WX.icmp_ge (off := 73) (tgt := 91) rfl rfl (fun c1 => ?_) (fun c1 => ?_)
  · refine WX.run (pc' := 5) (L' := [some (.ref 37), some (.int x1), some (.int x2), some (.int x3), some (.int (x4 + 1)), some (.int x5), none]) (st' := []) (M' := M) (P := True) 2 rfl trivial ?_
    refine WX.forget2 (L' := [some (.ref 37), some (.int x1), some (.int x2), some (.int x3), some (.int (x4 + 1)), none, none]) ?_ ⟨Or.inr rfl, Or.inr rfl, Or.inr rfl, Or.inr rfl, Or.inr rfl, Or.inl rfl, Or.inr rfl, trivial⟩
    exact (h1 c1)
  · refine WX.run (pc' := 32) (L' := [some (.ref 37), some (.int x1), some (.int x2), some (.int x3), some (.int x4), some (.int x5), none]) (st' := [.int x1, .int (M.1 46 (16 + x4).toNatClampNeg)]) (M' := M) (P := (True ∧ vp_in (16 + x4) 1257)) 7 rfl ⟨trivial, (b2 c1)⟩ ?_
    refine WX.icmp_ne (off := 59) (tgt := 91) rfl rfl (fun c2 => ?_) (fun c2 => ?_)
    · refine WX.run (pc' := 5) (L' := [some (.ref 37), some (.int x1), some (.int x2), some (.int x3), some (.int (x4 + 1)), some (.int x5), none]) (st' := []) (M' := M) (P := True) 2 rfl trivial ?_
      refine WX.forget2 (L' := [some (.ref 37), some (.int x1), some (.int x2), some (.int x3), some (.int (x4 + 1)), none, none]) ?_ ⟨Or.inr rfl, Or.inr rfl, Or.inr rfl, Or.inr rfl, Or.inr rfl, Or.inl rfl, Or.inr rfl, trivial⟩
      exact (h3 c1 c2)
    · refine WX.run (pc' := 38) (L' := [some (.ref 37), some (.int x1), some (.int x2), some (.int x3), some (.int x4), some (.int x5), none]) (st' := [.int x4, .ref 37]) (M' := M) (P := True) 2 rfl trivial ?_
      refine WX.callV (ca := mi_M_isThere) (n := 1) (d' := 3) (st := []) (As := [.int x4]) (q := 37) rfl lk_7_148 ck_M_isThere cv_M_isThere rfl (by decide) rfl (by decide) ⟨by decide, rfl, by decide⟩ (by intro w hw; simp only [List.mem_cons, List.not_mem_nil, or_false] at hw; rcases hw with rfl <;> rfl) (by decide) ?_
      refine wx_M_isThere_37 M x4 (b4 c1 c2) ?_
      show WX mi_M_doTouch 4 Q 41 [some (.ref 37), some (.int x1), some (.int x2), some (.int x3), some (.int x4), some (.int x5), none] [.int (z_M_isThere_37 M x4)] M
      refine WX.if_eq (off := 50) (tgt := 91) rfl rfl (fun c3 => ?_) (fun c3 => ?_)
      · refine WX.run (pc' := 5) (L' := [some (.ref 37), some (.int x1), some (.int x2), some (.int x3), some (.int (x4 + 1)), some (.int x5), none]) (st' := []) (M' := M) (P := True) 2 rfl trivial ?_
        refine WX.forget2 (L' := [some (.ref 37), some (.int x1), some (.int x2), some (.int x3), some (.int (x4 + 1)), none, none]) ?_ ⟨Or.inr rfl, Or.inr rfl, Or.inr rfl, Or.inr rfl, Or.inr rfl, Or.inl rfl, Or.inr rfl, trivial⟩
        exact (h5 c1 c2 c3)
      · refine WX.run (pc' := 49) (L' := [some (.ref 37), some (.int x1), some (.int x2), some (.int x3), some (.int x4), some (.int x5), none]) (st' := [.int x5, .int x4, .ref 37]) (M' := M) (P := True) 3 rfl trivial ?_
        refine WX.callV (ca := mi_M_beside) (n := 2) (d' := 3) (st := []) (As := [.int x4, .int x5]) (q := 37) rfl lk_7_169 ck_M_beside cv_M_beside rfl (by decide) rfl (by decide) ⟨by decide, rfl, by decide⟩ (by intro w hw; simp only [List.mem_cons, List.not_mem_nil, or_false] at hw; rcases hw with rfl | rfl <;> rfl) (by decide) ?_
        refine wx_M_beside_37 M x4 x5 ?_
        show WX mi_M_doTouch 4 Q 52 [some (.ref 37), some (.int x1), some (.int x2), some (.int x3), some (.int x4), some (.int x5), none] [.int (z_M_beside_37 M x4 x5)] M
        refine WX.run (pc' := 55) (L' := [some (.ref 37), some (.int x1), some (.int x2), some (.int x3), some (.int x4), some (.int x5), some (.int (z_M_beside_37 M x4 x5))]) (st' := [.int x3]) (M' := M) (P := True) 2 rfl trivial ?_
        refine WX.if_ne (off := 24) (tgt := 79) rfl rfl (fun c4 => ?_) (fun c4 => ?_)
        · refine WX.run (pc' := 15) (L' := [some (.ref 37), some (.int x1), some (.int x2), some (.int 1), some (.int x4), some (.int (x5 + 1)), some (.int (z_M_beside_37 M x4 x5))]) (st' := []) (M' := M) (P := True) 5 rfl trivial ?_
          refine WX.forget2 (L' := [some (.ref 37), some (.int x1), some (.int x2), some (.int 1), some (.int x4), some (.int (x5 + 1)), none]) ?_ ⟨Or.inr rfl, Or.inr rfl, Or.inr rfl, Or.inr rfl, Or.inr rfl, Or.inr rfl, Or.inl rfl, trivial⟩
          exact (h6 c1 c2 c3 c4)
        · refine WX.run (pc' := 62) (L' := [some (.ref 37), some (.int x1), some (.int x2), some (.int x3), some (.int x4), some (.int x5), some (.int (z_M_beside_37 M x4 x5))]) (st' := [.int (-9), .int (z_M_beside_37 M x4 x5)]) (M' := M) (P := True) 2 rfl trivial ?_
          refine WX.icmp_eq (off := 21) (tgt := 83) rfl rfl (fun c5 => ?_) (fun c5 => ?_)
          · refine WX.run (pc' := 15) (L' := [some (.ref 37), some (.int x1), some (.int x2), some (.int 0), some (.int x4), some (.int (x5 + 1)), some (.int (z_M_beside_37 M x4 x5))]) (st' := []) (M' := M) (P := True) 4 rfl trivial ?_
            refine WX.forget2 (L' := [some (.ref 37), some (.int x1), some (.int x2), some (.int 0), some (.int x4), some (.int (x5 + 1)), none]) ?_ ⟨Or.inr rfl, Or.inr rfl, Or.inr rfl, Or.inr rfl, Or.inr rfl, Or.inr rfl, Or.inl rfl, trivial⟩
            exact (h7 c1 c2 c3 c4 c5)
          · refine WX.run (pc' := 76) (L' := [some (.ref 37), some (.int x1), some (.int x2), some (.int x3), some (.int x4), some (.int x5), some (.int (z_M_beside_37 M x4 x5))]) (st' := [.int x2, .int (M.1 46 (16 + (z_M_beside_37 M x4 x5)).toNatClampNeg)]) (M' := M) (P := (True ∧ vp_in (16 + (z_M_beside_37 M x4 x5)) 1257)) 7 rfl ⟨trivial, (b8 c1 c2 c3 c4 c5)⟩ ?_
            refine WX.icmp_ne (off := 7) (tgt := 83) rfl rfl (fun c6 => ?_) (fun c6 => ?_)
            · refine WX.run (pc' := 15) (L' := [some (.ref 37), some (.int x1), some (.int x2), some (.int 0), some (.int x4), some (.int (x5 + 1)), some (.int (z_M_beside_37 M x4 x5))]) (st' := []) (M' := M) (P := True) 4 rfl trivial ?_
              refine WX.forget2 (L' := [some (.ref 37), some (.int x1), some (.int x2), some (.int 0), some (.int x4), some (.int (x5 + 1)), none]) ?_ ⟨Or.inr rfl, Or.inr rfl, Or.inr rfl, Or.inr rfl, Or.inr rfl, Or.inr rfl, Or.inl rfl, trivial⟩
              exact (h9 c1 c2 c3 c4 c5 c6)
            · refine WX.run (pc' := 15) (L' := [some (.ref 37), some (.int x1), some (.int x2), some (.int 1), some (.int x4), some (.int (x5 + 1)), some (.int (z_M_beside_37 M x4 x5))]) (st' := []) (M' := M) (P := True) 5 rfl trivial ?_
              refine WX.forget2 (L' := [some (.ref 37), some (.int x1), some (.int x2), some (.int 1), some (.int x4), some (.int (x5 + 1)), none]) ?_ ⟨Or.inr rfl, Or.inr rfl, Or.inr rfl, Or.inr rfl, Or.inr rfl, Or.inr rfl, Or.inl rfl, trivial⟩
              exact (h10 c1 c2 c3 c4 c5 c6)
theorem sg_M_alike_37_0 {Q : Option Value → Mem → Prop} (M : Mem)
    (h1 : WX mi_M_alike 5 Q 4 [some (.ref 37), some (.int 0), some (.int 0), none, none] [] M) :
    WX mi_M_alike 5 Q 0 [some (.ref 37), none, none, none, none] [] M := by
  refine WX.run (pc' := 4) (L' := [some (.ref 37), some (.int 0), some (.int 0), none, none]) (st' := []) (M' := M) (P := True) 4 rfl trivial ?_
  exact h1
theorem sg_M_alike_37_4 {Q : Option Value → Mem → Prop} (M : Mem) (x1 x2 : Int32)
    (h1 : 16 ≤ x2 → Q (some (.int x1)) M)
    (h2 : ¬ 16 ≤ x2 → WX mi_M_alike 5 Q 12 [some (.ref 37), some (.int x1), some (.int x2), some (.int 0), none] [] M) :
    WX mi_M_alike 5 Q 4 [some (.ref 37), some (.int x1), some (.int x2), none, none] [] M := by
  refine WX.run (pc' := 7) (L' := [some (.ref 37), some (.int x1), some (.int x2), none, none]) (st' := [.int 16, .int x2]) (M' := M) (P := True) 2 rfl trivial ?_
  refine WX.icmp_ge (off := 110) (tgt := 117) rfl rfl (fun c1 => ?_) (fun c1 => ?_)
  · refine WX.run (pc' := 118) (L' := [some (.ref 37), some (.int x1), some (.int x2), none, none]) (st' := [.int x1]) (M' := M) (P := True) 1 rfl trivial ?_
    exact WX.iret rfl rfl (h1 c1)
  · refine WX.run (pc' := 12) (L' := [some (.ref 37), some (.int x1), some (.int x2), some (.int 0), none]) (st' := []) (M' := M) (P := True) 2 rfl trivial ?_
    exact (h2 c1)
theorem sg_M_alike_37_12 {Q : Option Value → Mem → Prop} (M : Mem) (x1 x2 x3 : Int32)
    (h1 : x2 ≤ x3 → WX mi_M_alike 5 Q 4 [some (.ref 37), some (.int x1), some (.int (x2 + 1)), none, none] [] M)
    (b2 : ¬ x2 ≤ x3 → ((z_M_isCell_37 M (rem x2 4) (x2 / 4)) = 0 ∨ (z_M_isCell_37 M (rem x2 4) (x2 / 4)) = 1))
    (b3 : ¬ x2 ≤ x3 → ¬ (z_M_isThere_37 M x2) = 0 → vp_in (16 + x2) 1257)
    (b4 : ¬ x2 ≤ x3 → ¬ (z_M_isThere_37 M x2) = 0 → ¬ (M.1 46 (16 + x2).toNatClampNeg) = (-9) → vp_in (16 + x2) 1257)
    (h5 : ¬ x2 ≤ x3 → (z_M_begins_37 M x2) = 0 → 0 = 0 → WX mi_M_alike 5 Q 12 [some (.ref 37), some (.int (x1 + 0)), some (.int x2), some (.int (x3 + 1)), none] [] M)
    (b6 : ¬ x2 ≤ x3 → (z_M_begins_37 M x2) = 0 → ¬ 0 = 0 → vp_in (16 + x2) 1257)
    (b7 : ¬ x2 ≤ x3 → (z_M_begins_37 M x2) = 0 → ¬ 0 = 0 → vp_in (16 + x3) 1257)
    (h8 : ¬ x2 ≤ x3 → (z_M_begins_37 M x2) = 0 → ¬ 0 = 0 → WX mi_M_doTouch 4 (fun rv M' => WX mi_M_alike 5 Q 95 [some (.ref 37), some (.int x1), some (.int x2), some (.int x3), some (.int 0)] (rv.toList ++ [.int x1]) M') 0 [some (.ref 37), some (.int (M.1 46 (16 + x2).toNatClampNeg)), some (.int (M.1 46 (16 + x3).toNatClampNeg)), none, none, none, none] [] M)
    (b9 : ¬ x2 ≤ x3 → ¬ (z_M_begins_37 M x2) = 0 → ((z_M_isCell_37 M (rem x3 4) (x3 / 4)) = 0 ∨ (z_M_isCell_37 M (rem x3 4) (x3 / 4)) = 1))
    (b10 : ¬ x2 ≤ x3 → ¬ (z_M_begins_37 M x2) = 0 → ¬ (z_M_isThere_37 M x3) = 0 → vp_in (16 + x3) 1257)
    (b11 : ¬ x2 ≤ x3 → ¬ (z_M_begins_37 M x2) = 0 → ¬ (z_M_isThere_37 M x3) = 0 → ¬ (M.1 46 (16 + x3).toNatClampNeg) = (-9) → vp_in (16 + x3) 1257)
    (h12 : ¬ x2 ≤ x3 → ¬ (z_M_begins_37 M x2) = 0 → (z_M_begins_37 M x3) = 0 → 0 = 0 → WX mi_M_alike 5 Q 12 [some (.ref 37), some (.int (x1 + 0)), some (.int x2), some (.int (x3 + 1)), none] [] M)
    (b13 : ¬ x2 ≤ x3 → ¬ (z_M_begins_37 M x2) = 0 → (z_M_begins_37 M x3) = 0 → ¬ 0 = 0 → vp_in (16 + x2) 1257)
    (b14 : ¬ x2 ≤ x3 → ¬ (z_M_begins_37 M x2) = 0 → (z_M_begins_37 M x3) = 0 → ¬ 0 = 0 → vp_in (16 + x3) 1257)
    (h15 : ¬ x2 ≤ x3 → ¬ (z_M_begins_37 M x2) = 0 → (z_M_begins_37 M x3) = 0 → ¬ 0 = 0 → WX mi_M_doTouch 4 (fun rv M' => WX mi_M_alike 5 Q 95 [some (.ref 37), some (.int x1), some (.int x2), some (.int x3), some (.int 0)] (rv.toList ++ [.int x1]) M') 0 [some (.ref 37), some (.int (M.1 46 (16 + x2).toNatClampNeg)), some (.int (M.1 46 (16 + x3).toNatClampNeg)), none, none, none, none] [] M)
    (b16 : ¬ x2 ≤ x3 → ¬ (z_M_begins_37 M x2) = 0 → ¬ (z_M_begins_37 M x3) = 0 → vp_in (16 + x2) 1257)
    (b17 : ¬ x2 ≤ x3 → ¬ (z_M_begins_37 M x2) = 0 → ¬ (z_M_begins_37 M x3) = 0 → vp_in (16 + x3) 1257)
    (h18 : ¬ x2 ≤ x3 → ¬ (z_M_begins_37 M x2) = 0 → ¬ (z_M_begins_37 M x3) = 0 → ¬ ((M.1 46 (16 + x2).toNatClampNeg) / 16) = ((M.1 46 (16 + x3).toNatClampNeg) / 16) → 0 = 0 → WX mi_M_alike 5 Q 12 [some (.ref 37), some (.int (x1 + 0)), some (.int x2), some (.int (x3 + 1)), none] [] M)
    (b19 : ¬ x2 ≤ x3 → ¬ (z_M_begins_37 M x2) = 0 → ¬ (z_M_begins_37 M x3) = 0 → ¬ ((M.1 46 (16 + x2).toNatClampNeg) / 16) = ((M.1 46 (16 + x3).toNatClampNeg) / 16) → ¬ 0 = 0 → vp_in (16 + x2) 1257)
    (b20 : ¬ x2 ≤ x3 → ¬ (z_M_begins_37 M x2) = 0 → ¬ (z_M_begins_37 M x3) = 0 → ¬ ((M.1 46 (16 + x2).toNatClampNeg) / 16) = ((M.1 46 (16 + x3).toNatClampNeg) / 16) → ¬ 0 = 0 → vp_in (16 + x3) 1257)
    (h21 : ¬ x2 ≤ x3 → ¬ (z_M_begins_37 M x2) = 0 → ¬ (z_M_begins_37 M x3) = 0 → ¬ ((M.1 46 (16 + x2).toNatClampNeg) / 16) = ((M.1 46 (16 + x3).toNatClampNeg) / 16) → ¬ 0 = 0 → WX mi_M_doTouch 4 (fun rv M' => WX mi_M_alike 5 Q 95 [some (.ref 37), some (.int x1), some (.int x2), some (.int x3), some (.int 0)] (rv.toList ++ [.int x1]) M') 0 [some (.ref 37), some (.int (M.1 46 (16 + x2).toNatClampNeg)), some (.int (M.1 46 (16 + x3).toNatClampNeg)), none, none, none, none] [] M)
    (h22 : ¬ x2 ≤ x3 → ¬ (z_M_begins_37 M x2) = 0 → ¬ (z_M_begins_37 M x3) = 0 → ((M.1 46 (16 + x2).toNatClampNeg) / 16) = ((M.1 46 (16 + x3).toNatClampNeg) / 16) → 1 = 0 → WX mi_M_alike 5 Q 12 [some (.ref 37), some (.int (x1 + 0)), some (.int x2), some (.int (x3 + 1)), none] [] M)
    (b23 : ¬ x2 ≤ x3 → ¬ (z_M_begins_37 M x2) = 0 → ¬ (z_M_begins_37 M x3) = 0 → ((M.1 46 (16 + x2).toNatClampNeg) / 16) = ((M.1 46 (16 + x3).toNatClampNeg) / 16) → ¬ 1 = 0 → vp_in (16 + x2) 1257)
    (b24 : ¬ x2 ≤ x3 → ¬ (z_M_begins_37 M x2) = 0 → ¬ (z_M_begins_37 M x3) = 0 → ((M.1 46 (16 + x2).toNatClampNeg) / 16) = ((M.1 46 (16 + x3).toNatClampNeg) / 16) → ¬ 1 = 0 → vp_in (16 + x3) 1257)
    (h25 : ¬ x2 ≤ x3 → ¬ (z_M_begins_37 M x2) = 0 → ¬ (z_M_begins_37 M x3) = 0 → ((M.1 46 (16 + x2).toNatClampNeg) / 16) = ((M.1 46 (16 + x3).toNatClampNeg) / 16) → ¬ 1 = 0 → WX mi_M_doTouch 4 (fun rv M' => WX mi_M_alike 5 Q 95 [some (.ref 37), some (.int x1), some (.int x2), some (.int x3), some (.int 1)] (rv.toList ++ [.int x1]) M') 0 [some (.ref 37), some (.int (M.1 46 (16 + x2).toNatClampNeg)), some (.int (M.1 46 (16 + x3).toNatClampNeg)), none, none, none, none] [] M) :
    WX mi_M_alike 5 Q 12 [some (.ref 37), some (.int x1), some (.int x2), some (.int x3), none] [] M := by
  refine WX.run (pc' := 14) (L' := [some (.ref 37), some (.int x1), some (.int x2), some (.int x3), none]) (st' := [.int x2, .int x3]) (M' := M) (P := True) 2 rfl trivial ?_
  refine WX.icmp_ge (off := 97) (tgt := 111) rfl rfl (fun c1 => ?_) (fun c1 => ?_)
  · refine WX.run (pc' := 4) (L' := [some (.ref 37), some (.int x1), some (.int (x2 + 1)), some (.int x3), none]) (st' := []) (M' := M) (P := True) 2 rfl trivial ?_
    refine WX.forget2 (L' := [some (.ref 37), some (.int x1), some (.int (x2 + 1)), none, none]) ?_ ⟨Or.inr rfl, Or.inr rfl, Or.inr rfl, Or.inl rfl, Or.inr rfl, trivial⟩
    exact (h1 c1)
  · refine WX.run (pc' := 19) (L' := [some (.ref 37), some (.int x1), some (.int x2), some (.int x3), none]) (st' := [.int x2, .ref 37]) (M' := M) (P := True) 2 rfl trivial ?_
    refine WX.callV (ca := mi_M_begins) (n := 1) (d' := 4) (st := []) (As := [.int x2]) (q := 37) rfl lk_7_172 ck_M_begins cv_M_begins rfl (by decide) rfl (by decide) ⟨by decide, rfl, by decide⟩ (by intro w hw; simp only [List.mem_cons, List.not_mem_nil, or_false] at hw; rcases hw with rfl <;> rfl) (by decide) ?_
    refine wx_M_begins_37 M x2 (b2 c1) (b3 c1) (b4 c1) ?_
    show WX mi_M_alike 5 Q 22 [some (.ref 37), some (.int x1), some (.int x2), some (.int x3), none] [.int (z_M_begins_37 M x2)] M
    refine WX.if_eq (off := 42) (tgt := 64) rfl rfl (fun c2 => ?_) (fun c2 => ?_)
    · refine WX.run (pc' := 70) (L' := [some (.ref 37), some (.int x1), some (.int x2), some (.int x3), some (.int 0)]) (st' := [.int 0, .int x1]) (M' := M) (P := True) 4 rfl trivial ?_
      refine WX.if_eq (off := 32) (tgt := 102) rfl rfl (fun c3 => ?_) (fun c3 => ?_)
      · refine WX.run (pc' := 12) (L' := [some (.ref 37), some (.int (x1 + 0)), some (.int x2), some (.int (x3 + 1)), some (.int 0)]) (st' := []) (M' := M) (P := True) 5 rfl trivial ?_
        refine WX.forget2 (L' := [some (.ref 37), some (.int (x1 + 0)), some (.int x2), some (.int (x3 + 1)), none]) ?_ ⟨Or.inr rfl, Or.inr rfl, Or.inr rfl, Or.inr rfl, Or.inl rfl, trivial⟩
        exact (h5 c1 c2 c3)
      · refine WX.run (pc' := 92) (L' := [some (.ref 37), some (.int x1), some (.int x2), some (.int x3), some (.int 0)]) (st' := [.int (M.1 46 (16 + x3).toNatClampNeg), .int (M.1 46 (16 + x2).toNatClampNeg), .ref 37, .int x1]) (M' := M) (P := ((True ∧ vp_in (16 + x2) 1257) ∧ vp_in (16 + x3) 1257)) 13 rfl ⟨⟨trivial, (b6 c1 c2 c3)⟩, (b7 c1 c2 c3)⟩ ?_
        refine WX.callV (ca := mi_M_doTouch) (n := 2) (d' := 4) (st := [.int x1]) (As := [.int (M.1 46 (16 + x2).toNatClampNeg), .int (M.1 46 (16 + x3).toNatClampNeg)]) (q := 37) rfl lk_7_175 ck_M_doTouch cv_M_doTouch rfl (by decide) rfl (by decide) ⟨by decide, rfl, by decide⟩ (by intro w hw; simp only [List.mem_cons, List.not_mem_nil, or_false] at hw; rcases hw with rfl | rfl <;> rfl) (by decide) ?_
        exact (h8 c1 c2 c3)
    · refine WX.run (pc' := 27) (L' := [some (.ref 37), some (.int x1), some (.int x2), some (.int x3), none]) (st' := [.int x3, .ref 37]) (M' := M) (P := True) 2 rfl trivial ?_
      refine WX.callV (ca := mi_M_begins) (n := 1) (d' := 4) (st := []) (As := [.int x3]) (q := 37) rfl lk_7_172 ck_M_begins cv_M_begins rfl (by decide) rfl (by decide) ⟨by decide, rfl, by decide⟩ (by intro w hw; simp only [List.mem_cons, List.not_mem_nil, or_false] at hw; rcases hw with rfl <;> rfl) (by decide) ?_
      refine wx_M_begins_37 M x3 (b9 c1 c2) (b10 c1 c2) (b11 c1 c2) ?_
      show WX mi_M_alike 5 Q 30 [some (.ref 37), some (.int x1), some (.int x2), some (.int x3), none] [.int (z_M_begins_37 M x3)] M
      refine WX.if_eq (off := 34) (tgt := 64) rfl rfl (fun c4 => ?_) (fun c4 => ?_)
      · refine WX.run (pc' := 70) (L' := [some (.ref 37), some (.int x1), some (.int x2), some (.int x3), some (.int 0)]) (st' := [.int 0, .int x1]) (M' := M) (P := True) 4 rfl trivial ?_
        refine WX.if_eq (off := 32) (tgt := 102) rfl rfl (fun c5 => ?_) (fun c5 => ?_)
        · refine WX.run (pc' := 12) (L' := [some (.ref 37), some (.int (x1 + 0)), some (.int x2), some (.int (x3 + 1)), some (.int 0)]) (st' := []) (M' := M) (P := True) 5 rfl trivial ?_
          refine WX.forget2 (L' := [some (.ref 37), some (.int (x1 + 0)), some (.int x2), some (.int (x3 + 1)), none]) ?_ ⟨Or.inr rfl, Or.inr rfl, Or.inr rfl, Or.inr rfl, Or.inl rfl, trivial⟩
          exact (h12 c1 c2 c4 c5)
        · refine WX.run (pc' := 92) (L' := [some (.ref 37), some (.int x1), some (.int x2), some (.int x3), some (.int 0)]) (st' := [.int (M.1 46 (16 + x3).toNatClampNeg), .int (M.1 46 (16 + x2).toNatClampNeg), .ref 37, .int x1]) (M' := M) (P := ((True ∧ vp_in (16 + x2) 1257) ∧ vp_in (16 + x3) 1257)) 13 rfl ⟨⟨trivial, (b13 c1 c2 c4 c5)⟩, (b14 c1 c2 c4 c5)⟩ ?_
          refine WX.callV (ca := mi_M_doTouch) (n := 2) (d' := 4) (st := [.int x1]) (As := [.int (M.1 46 (16 + x2).toNatClampNeg), .int (M.1 46 (16 + x3).toNatClampNeg)]) (q := 37) rfl lk_7_175 ck_M_doTouch cv_M_doTouch rfl (by decide) rfl (by decide) ⟨by decide, rfl, by decide⟩ (by intro w hw; simp only [List.mem_cons, List.not_mem_nil, or_false] at hw; rcases hw with rfl | rfl <;> rfl) (by decide) ?_
          exact (h15 c1 c2 c4 c5)
      · refine WX.run (pc' := 57) (L' := [some (.ref 37), some (.int x1), some (.int x2), some (.int x3), none]) (st' := [.int ((M.1 46 (16 + x3).toNatClampNeg) / 16), .int ((M.1 46 (16 + x2).toNatClampNeg) / 16)]) (M' := M) (P := ((((True ∧ vp_in (16 + x2) 1257) ∧ ¬ 16 = 0) ∧ vp_in (16 + x3) 1257) ∧ ¬ 16 = 0)) 16 rfl ⟨⟨⟨⟨trivial, (b16 c1 c2 c4)⟩, (by decide)⟩, (b17 c1 c2 c4)⟩, (by decide)⟩ ?_
        refine WX.icmp_ne (off := 7) (tgt := 64) rfl rfl (fun c6 => ?_) (fun c6 => ?_)
        · refine WX.run (pc' := 70) (L' := [some (.ref 37), some (.int x1), some (.int x2), some (.int x3), some (.int 0)]) (st' := [.int 0, .int x1]) (M' := M) (P := True) 4 rfl trivial ?_
          refine WX.if_eq (off := 32) (tgt := 102) rfl rfl (fun c7 => ?_) (fun c7 => ?_)
          · refine WX.run (pc' := 12) (L' := [some (.ref 37), some (.int (x1 + 0)), some (.int x2), some (.int (x3 + 1)), some (.int 0)]) (st' := []) (M' := M) (P := True) 5 rfl trivial ?_
            refine WX.forget2 (L' := [some (.ref 37), some (.int (x1 + 0)), some (.int x2), some (.int (x3 + 1)), none]) ?_ ⟨Or.inr rfl, Or.inr rfl, Or.inr rfl, Or.inr rfl, Or.inl rfl, trivial⟩
            exact (h18 c1 c2 c4 c6 c7)
          · refine WX.run (pc' := 92) (L' := [some (.ref 37), some (.int x1), some (.int x2), some (.int x3), some (.int 0)]) (st' := [.int (M.1 46 (16 + x3).toNatClampNeg), .int (M.1 46 (16 + x2).toNatClampNeg), .ref 37, .int x1]) (M' := M) (P := ((True ∧ vp_in (16 + x2) 1257) ∧ vp_in (16 + x3) 1257)) 13 rfl ⟨⟨trivial, (b19 c1 c2 c4 c6 c7)⟩, (b20 c1 c2 c4 c6 c7)⟩ ?_
            refine WX.callV (ca := mi_M_doTouch) (n := 2) (d' := 4) (st := [.int x1]) (As := [.int (M.1 46 (16 + x2).toNatClampNeg), .int (M.1 46 (16 + x3).toNatClampNeg)]) (q := 37) rfl lk_7_175 ck_M_doTouch cv_M_doTouch rfl (by decide) rfl (by decide) ⟨by decide, rfl, by decide⟩ (by intro w hw; simp only [List.mem_cons, List.not_mem_nil, or_false] at hw; rcases hw with rfl | rfl <;> rfl) (by decide) ?_
            exact (h21 c1 c2 c4 c6 c7)
        · refine WX.run (pc' := 70) (L' := [some (.ref 37), some (.int x1), some (.int x2), some (.int x3), some (.int 1)]) (st' := [.int 1, .int x1]) (M' := M) (P := True) 5 rfl trivial ?_
          refine WX.if_eq (off := 32) (tgt := 102) rfl rfl (fun c8 => ?_) (fun c8 => ?_)
          · refine WX.run (pc' := 12) (L' := [some (.ref 37), some (.int (x1 + 0)), some (.int x2), some (.int (x3 + 1)), some (.int 1)]) (st' := []) (M' := M) (P := True) 5 rfl trivial ?_
            refine WX.forget2 (L' := [some (.ref 37), some (.int (x1 + 0)), some (.int x2), some (.int (x3 + 1)), none]) ?_ ⟨Or.inr rfl, Or.inr rfl, Or.inr rfl, Or.inr rfl, Or.inl rfl, trivial⟩
            exact (h22 c1 c2 c4 c6 c8)
          · refine WX.run (pc' := 92) (L' := [some (.ref 37), some (.int x1), some (.int x2), some (.int x3), some (.int 1)]) (st' := [.int (M.1 46 (16 + x3).toNatClampNeg), .int (M.1 46 (16 + x2).toNatClampNeg), .ref 37, .int x1]) (M' := M) (P := ((True ∧ vp_in (16 + x2) 1257) ∧ vp_in (16 + x3) 1257)) 13 rfl ⟨⟨trivial, (b23 c1 c2 c4 c6 c8)⟩, (b24 c1 c2 c4 c6 c8)⟩ ?_
            refine WX.callV (ca := mi_M_doTouch) (n := 2) (d' := 4) (st := [.int x1]) (As := [.int (M.1 46 (16 + x2).toNatClampNeg), .int (M.1 46 (16 + x3).toNatClampNeg)]) (q := 37) rfl lk_7_175 ck_M_doTouch cv_M_doTouch rfl (by decide) rfl (by decide) ⟨by decide, rfl, by decide⟩ (by intro w hw; simp only [List.mem_cons, List.not_mem_nil, or_false] at hw; rcases hw with rfl | rfl <;> rfl) (by decide) ?_
            exact (h25 c1 c2 c4 c6 c8)
theorem sg_M_alike_37_95 {Q : Option Value → Mem → Prop} (M : Mem) (x1 x2 x3 x4 r s1 : Int32)
    (h1 : r = 0 → WX mi_M_alike 5 Q 12 [some (.ref 37), some (.int (s1 + 0)), some (.int x2), some (.int (x3 + 1)), none] [] M)
    (h2 : ¬ r = 0 → WX mi_M_alike 5 Q 12 [some (.ref 37), some (.int (s1 + 1)), some (.int x2), some (.int (x3 + 1)), none] [] M) :
    WX mi_M_alike 5 Q 95 [some (.ref 37), some (.int x1), some (.int x2), some (.int x3), some (.int x4)] [.int r, .int s1] M := by
  refine WX.if_eq (off := 7) (tgt := 102) rfl rfl (fun c1 => ?_) (fun c1 => ?_)
  · refine WX.run (pc' := 12) (L' := [some (.ref 37), some (.int (s1 + 0)), some (.int x2), some (.int (x3 + 1)), some (.int x4)]) (st' := []) (M' := M) (P := True) 5 rfl trivial ?_
    refine WX.forget2 (L' := [some (.ref 37), some (.int (s1 + 0)), some (.int x2), some (.int (x3 + 1)), none]) ?_ ⟨Or.inr rfl, Or.inr rfl, Or.inr rfl, Or.inr rfl, Or.inl rfl, trivial⟩
    exact (h1 c1)
  · refine WX.run (pc' := 12) (L' := [some (.ref 37), some (.int (s1 + 1)), some (.int x2), some (.int (x3 + 1)), some (.int x4)]) (st' := []) (M' := M) (P := True) 6 rfl trivial ?_
    refine WX.forget2 (L' := [some (.ref 37), some (.int (s1 + 1)), some (.int x2), some (.int (x3 + 1)), none]) ?_ ⟨Or.inr rfl, Or.inr rfl, Or.inr rfl, Or.inr rfl, Or.inl rfl, trivial⟩
    exact (h2 c1)
theorem sg_M_heightOf_37_46_0 {Q : Option Value → Mem → Prop} (M : Mem) (x2 : Int32)
    (b1 : (z_M_isDrain_37 M x2) = 0 → vp_in x2 1257)
    (h2 : (z_M_isDrain_37 M x2) = 0 → Q (some (.int (M.1 46 x2.toNatClampNeg))) M)
    (h3 : ¬ (z_M_isDrain_37 M x2) = 0 → Q (some (.int (-1))) M) :
    WX mi_M_heightOf 2 Q 0 [some (.ref 37), some (.ref 46), some (.int x2)] [] M := by
  refine WX.run (pc' := 2) (L' := [some (.ref 37), some (.ref 46), some (.int x2)]) (st' := [.int x2, .ref 37]) (M' := M) (P := True) 2 rfl trivial ?_
  refine WX.callV (ca := mi_M_isDrain) (n := 1) (d' := 1) (st := []) (As := [.int x2]) (q := 37) rfl lk_7_138 ck_M_isDrain cv_M_isDrain rfl (by decide) rfl (by decide) ⟨by decide, rfl, by decide⟩ (by intro w hw; simp only [List.mem_cons, List.not_mem_nil, or_false] at hw; rcases hw with rfl <;> rfl) (by decide) ?_
  refine wx_M_isDrain_37 M x2 ?_
  show WX mi_M_heightOf 2 Q 5 [some (.ref 37), some (.ref 46), some (.int x2)] [.int (z_M_isDrain_37 M x2)] M
  refine WX.if_eq (off := 7) (tgt := 12) rfl rfl (fun c1 => ?_) (fun c1 => ?_)
  · refine WX.run (pc' := 15) (L' := [some (.ref 37), some (.ref 46), some (.int x2)]) (st' := [.int (M.1 46 x2.toNatClampNeg)]) (M' := M) (P := (True ∧ vp_in x2 1257)) 3 rfl ⟨trivial, (b1 c1)⟩ ?_
    exact WX.iret rfl rfl (h2 c1)
  · refine WX.run (pc' := 15) (L' := [some (.ref 37), some (.ref 46), some (.int x2)]) (st' := [.int (-1)]) (M' := M) (P := True) 2 rfl trivial ?_
    exact WX.iret rfl rfl (h3 c1)
def z_M_heightOf_37_46 (M : Mem) (x2 : Int32) : Int32 := (if (z_M_isDrain_37 M x2) = 0 then (M.1 46 x2.toNatClampNeg) else (-1))
theorem wx_M_heightOf_37_46 {Q : Option Value → Mem → Prop} (M : Mem) (x2 : Int32)
    (b1 : (z_M_isDrain_37 M x2) = 0 → vp_in x2 1257)
    (h : Q (some (.int (z_M_heightOf_37_46 M x2))) M) :
    WX mi_M_heightOf 2 Q 0 [some (.ref 37), some (.ref 46), some (.int x2)] [] M := by
  refine sg_M_heightOf_37_46_0 M x2
    b1
    (fun c1 => by
      unfold z_M_heightOf_37_46 at h
      rw [if_pos c1] at h
      exact h)
    (fun c1 => by
      unfold z_M_heightOf_37_46 at h
      rw [if_neg c1] at h
      exact h)
theorem sg_M_nextOf_37_46_0 {Q : Option Value → Mem → Prop} (M : Mem) (x2 : Int32)
    (h1 : WX mi_M_nextOf 4 Q 6 [some (.ref 37), some (.ref 46), some (.int x2), some (.int (-9)), some (.int 0), none, none] [] M) :
    WX mi_M_nextOf 4 Q 0 [some (.ref 37), some (.ref 46), some (.int x2), none, none, none, none] [] M := by
  refine WX.run (pc' := 6) (L' := [some (.ref 37), some (.ref 46), some (.int x2), some (.int (-9)), some (.int 0), none, none]) (st' := []) (M' := M) (P := True) 4 rfl trivial ?_
  exact h1
theorem sg_M_nextOf_37_46_6 {Q : Option Value → Mem → Prop} (M : Mem) (x2 x3 x4 : Int32)
    (h1 : 4 ≤ x4 → Q (some (.int x3)) M)
    (h2 : ¬ 4 ≤ x4 → (z_M_beside_37 M x2 x4) = (-9) → 0 = 0 → WX mi_M_nextOf 4 Q 6 [some (.ref 37), some (.ref 46), some (.int x2), some (.int x3), some (.int (x4 + 1)), none, none] [] M)
    (h3 : ¬ 4 ≤ x4 → (z_M_beside_37 M x2 x4) = (-9) → ¬ 0 = 0 → x3 = (-9) → WX mi_M_nextOf 4 Q 6 [some (.ref 37), some (.ref 46), some (.int x2), some (.int (z_M_beside_37 M x2 x4)), some (.int (x4 + 1)), none, none] [] M)
    (b4 : ¬ 4 ≤ x4 → (z_M_beside_37 M x2 x4) = (-9) → ¬ 0 = 0 → ¬ x3 = (-9) → (z_M_isDrain_37 M (z_M_beside_37 M x2 x4)) = 0 → vp_in (z_M_beside_37 M x2 x4) 1257)
    (b5 : ¬ 4 ≤ x4 → (z_M_beside_37 M x2 x4) = (-9) → ¬ 0 = 0 → ¬ x3 = (-9) → (z_M_isDrain_37 M x3) = 0 → vp_in x3 1257)
    (h6 : ¬ 4 ≤ x4 → (z_M_beside_37 M x2 x4) = (-9) → ¬ 0 = 0 → ¬ x3 = (-9) → (z_M_heightOf_37_46 M x3) ≤ (z_M_heightOf_37_46 M (z_M_beside_37 M x2 x4)) → WX mi_M_nextOf 4 Q 6 [some (.ref 37), some (.ref 46), some (.int x2), some (.int x3), some (.int (x4 + 1)), none, none] [] M)
    (h7 : ¬ 4 ≤ x4 → (z_M_beside_37 M x2 x4) = (-9) → ¬ 0 = 0 → ¬ x3 = (-9) → ¬ (z_M_heightOf_37_46 M x3) ≤ (z_M_heightOf_37_46 M (z_M_beside_37 M x2 x4)) → WX mi_M_nextOf 4 Q 6 [some (.ref 37), some (.ref 46), some (.int x2), some (.int (z_M_beside_37 M x2 x4)), some (.int (x4 + 1)), none, none] [] M)
    (h8 : ¬ 4 ≤ x4 → ¬ (z_M_beside_37 M x2 x4) = (-9) → ¬ (z_M_isLid_37 M (z_M_beside_37 M x2 x4)) = 0 → 0 = 0 → WX mi_M_nextOf 4 Q 6 [some (.ref 37), some (.ref 46), some (.int x2), some (.int x3), some (.int (x4 + 1)), none, none] [] M)
    (h9 : ¬ 4 ≤ x4 → ¬ (z_M_beside_37 M x2 x4) = (-9) → ¬ (z_M_isLid_37 M (z_M_beside_37 M x2 x4)) = 0 → ¬ 0 = 0 → x3 = (-9) → WX mi_M_nextOf 4 Q 6 [some (.ref 37), some (.ref 46), some (.int x2), some (.int (z_M_beside_37 M x2 x4)), some (.int (x4 + 1)), none, none] [] M)
    (b10 : ¬ 4 ≤ x4 → ¬ (z_M_beside_37 M x2 x4) = (-9) → ¬ (z_M_isLid_37 M (z_M_beside_37 M x2 x4)) = 0 → ¬ 0 = 0 → ¬ x3 = (-9) → (z_M_isDrain_37 M (z_M_beside_37 M x2 x4)) = 0 → vp_in (z_M_beside_37 M x2 x4) 1257)
    (b11 : ¬ 4 ≤ x4 → ¬ (z_M_beside_37 M x2 x4) = (-9) → ¬ (z_M_isLid_37 M (z_M_beside_37 M x2 x4)) = 0 → ¬ 0 = 0 → ¬ x3 = (-9) → (z_M_isDrain_37 M x3) = 0 → vp_in x3 1257)
    (h12 : ¬ 4 ≤ x4 → ¬ (z_M_beside_37 M x2 x4) = (-9) → ¬ (z_M_isLid_37 M (z_M_beside_37 M x2 x4)) = 0 → ¬ 0 = 0 → ¬ x3 = (-9) → (z_M_heightOf_37_46 M x3) ≤ (z_M_heightOf_37_46 M (z_M_beside_37 M x2 x4)) → WX mi_M_nextOf 4 Q 6 [some (.ref 37), some (.ref 46), some (.int x2), some (.int x3), some (.int (x4 + 1)), none, none] [] M)
    (h13 : ¬ 4 ≤ x4 → ¬ (z_M_beside_37 M x2 x4) = (-9) → ¬ (z_M_isLid_37 M (z_M_beside_37 M x2 x4)) = 0 → ¬ 0 = 0 → ¬ x3 = (-9) → ¬ (z_M_heightOf_37_46 M x3) ≤ (z_M_heightOf_37_46 M (z_M_beside_37 M x2 x4)) → WX mi_M_nextOf 4 Q 6 [some (.ref 37), some (.ref 46), some (.int x2), some (.int (z_M_beside_37 M x2 x4)), some (.int (x4 + 1)), none, none] [] M)
    (b14 : ¬ 4 ≤ x4 → ¬ (z_M_beside_37 M x2 x4) = (-9) → (z_M_isLid_37 M (z_M_beside_37 M x2 x4)) = 0 → (z_M_isDrain_37 M (z_M_beside_37 M x2 x4)) = 0 → vp_in (z_M_beside_37 M x2 x4) 1257)
    (b15 : ¬ 4 ≤ x4 → ¬ (z_M_beside_37 M x2 x4) = (-9) → (z_M_isLid_37 M (z_M_beside_37 M x2 x4)) = 0 → (z_M_isDrain_37 M x2) = 0 → vp_in x2 1257)
    (h16 : ¬ 4 ≤ x4 → ¬ (z_M_beside_37 M x2 x4) = (-9) → (z_M_isLid_37 M (z_M_beside_37 M x2 x4)) = 0 → (z_M_heightOf_37_46 M x2) ≤ (z_M_heightOf_37_46 M (z_M_beside_37 M x2 x4)) → 0 = 0 → WX mi_M_nextOf 4 Q 6 [some (.ref 37), some (.ref 46), some (.int x2), some (.int x3), some (.int (x4 + 1)), none, none] [] M)
    (h17 : ¬ 4 ≤ x4 → ¬ (z_M_beside_37 M x2 x4) = (-9) → (z_M_isLid_37 M (z_M_beside_37 M x2 x4)) = 0 → (z_M_heightOf_37_46 M x2) ≤ (z_M_heightOf_37_46 M (z_M_beside_37 M x2 x4)) → ¬ 0 = 0 → x3 = (-9) → WX mi_M_nextOf 4 Q 6 [some (.ref 37), some (.ref 46), some (.int x2), some (.int (z_M_beside_37 M x2 x4)), some (.int (x4 + 1)), none, none] [] M)
    (b18 : ¬ 4 ≤ x4 → ¬ (z_M_beside_37 M x2 x4) = (-9) → (z_M_isLid_37 M (z_M_beside_37 M x2 x4)) = 0 → (z_M_heightOf_37_46 M x2) ≤ (z_M_heightOf_37_46 M (z_M_beside_37 M x2 x4)) → ¬ 0 = 0 → ¬ x3 = (-9) → (z_M_isDrain_37 M (z_M_beside_37 M x2 x4)) = 0 → vp_in (z_M_beside_37 M x2 x4) 1257)
    (b19 : ¬ 4 ≤ x4 → ¬ (z_M_beside_37 M x2 x4) = (-9) → (z_M_isLid_37 M (z_M_beside_37 M x2 x4)) = 0 → (z_M_heightOf_37_46 M x2) ≤ (z_M_heightOf_37_46 M (z_M_beside_37 M x2 x4)) → ¬ 0 = 0 → ¬ x3 = (-9) → (z_M_isDrain_37 M x3) = 0 → vp_in x3 1257)
    (h20 : ¬ 4 ≤ x4 → ¬ (z_M_beside_37 M x2 x4) = (-9) → (z_M_isLid_37 M (z_M_beside_37 M x2 x4)) = 0 → (z_M_heightOf_37_46 M x2) ≤ (z_M_heightOf_37_46 M (z_M_beside_37 M x2 x4)) → ¬ 0 = 0 → ¬ x3 = (-9) → (z_M_heightOf_37_46 M x3) ≤ (z_M_heightOf_37_46 M (z_M_beside_37 M x2 x4)) → WX mi_M_nextOf 4 Q 6 [some (.ref 37), some (.ref 46), some (.int x2), some (.int x3), some (.int (x4 + 1)), none, none] [] M)
    (h21 : ¬ 4 ≤ x4 → ¬ (z_M_beside_37 M x2 x4) = (-9) → (z_M_isLid_37 M (z_M_beside_37 M x2 x4)) = 0 → (z_M_heightOf_37_46 M x2) ≤ (z_M_heightOf_37_46 M (z_M_beside_37 M x2 x4)) → ¬ 0 = 0 → ¬ x3 = (-9) → ¬ (z_M_heightOf_37_46 M x3) ≤ (z_M_heightOf_37_46 M (z_M_beside_37 M x2 x4)) → WX mi_M_nextOf 4 Q 6 [some (.ref 37), some (.ref 46), some (.int x2), some (.int (z_M_beside_37 M x2 x4)), some (.int (x4 + 1)), none, none] [] M)
    (h22 : ¬ 4 ≤ x4 → ¬ (z_M_beside_37 M x2 x4) = (-9) → (z_M_isLid_37 M (z_M_beside_37 M x2 x4)) = 0 → ¬ (z_M_heightOf_37_46 M x2) ≤ (z_M_heightOf_37_46 M (z_M_beside_37 M x2 x4)) → 1 = 0 → WX mi_M_nextOf 4 Q 6 [some (.ref 37), some (.ref 46), some (.int x2), some (.int x3), some (.int (x4 + 1)), none, none] [] M)
    (h23 : ¬ 4 ≤ x4 → ¬ (z_M_beside_37 M x2 x4) = (-9) → (z_M_isLid_37 M (z_M_beside_37 M x2 x4)) = 0 → ¬ (z_M_heightOf_37_46 M x2) ≤ (z_M_heightOf_37_46 M (z_M_beside_37 M x2 x4)) → ¬ 1 = 0 → x3 = (-9) → WX mi_M_nextOf 4 Q 6 [some (.ref 37), some (.ref 46), some (.int x2), some (.int (z_M_beside_37 M x2 x4)), some (.int (x4 + 1)), none, none] [] M)
    (b24 : ¬ 4 ≤ x4 → ¬ (z_M_beside_37 M x2 x4) = (-9) → (z_M_isLid_37 M (z_M_beside_37 M x2 x4)) = 0 → ¬ (z_M_heightOf_37_46 M x2) ≤ (z_M_heightOf_37_46 M (z_M_beside_37 M x2 x4)) → ¬ 1 = 0 → ¬ x3 = (-9) → (z_M_isDrain_37 M (z_M_beside_37 M x2 x4)) = 0 → vp_in (z_M_beside_37 M x2 x4) 1257)
    (b25 : ¬ 4 ≤ x4 → ¬ (z_M_beside_37 M x2 x4) = (-9) → (z_M_isLid_37 M (z_M_beside_37 M x2 x4)) = 0 → ¬ (z_M_heightOf_37_46 M x2) ≤ (z_M_heightOf_37_46 M (z_M_beside_37 M x2 x4)) → ¬ 1 = 0 → ¬ x3 = (-9) → (z_M_isDrain_37 M x3) = 0 → vp_in x3 1257)
    (h26 : ¬ 4 ≤ x4 → ¬ (z_M_beside_37 M x2 x4) = (-9) → (z_M_isLid_37 M (z_M_beside_37 M x2 x4)) = 0 → ¬ (z_M_heightOf_37_46 M x2) ≤ (z_M_heightOf_37_46 M (z_M_beside_37 M x2 x4)) → ¬ 1 = 0 → ¬ x3 = (-9) → (z_M_heightOf_37_46 M x3) ≤ (z_M_heightOf_37_46 M (z_M_beside_37 M x2 x4)) → WX mi_M_nextOf 4 Q 6 [some (.ref 37), some (.ref 46), some (.int x2), some (.int x3), some (.int (x4 + 1)), none, none] [] M)
    (h27 : ¬ 4 ≤ x4 → ¬ (z_M_beside_37 M x2 x4) = (-9) → (z_M_isLid_37 M (z_M_beside_37 M x2 x4)) = 0 → ¬ (z_M_heightOf_37_46 M x2) ≤ (z_M_heightOf_37_46 M (z_M_beside_37 M x2 x4)) → ¬ 1 = 0 → ¬ x3 = (-9) → ¬ (z_M_heightOf_37_46 M x3) ≤ (z_M_heightOf_37_46 M (z_M_beside_37 M x2 x4)) → WX mi_M_nextOf 4 Q 6 [some (.ref 37), some (.ref 46), some (.int x2), some (.int (z_M_beside_37 M x2 x4)), some (.int (x4 + 1)), none, none] [] M) :
    WX mi_M_nextOf 4 Q 6 [some (.ref 37), some (.ref 46), some (.int x2), some (.int x3), some (.int x4), none, none] [] M := by
  refine WX.run (pc' := 9) (L' := [some (.ref 37), some (.ref 46), some (.int x2), some (.int x3), some (.int x4), none, none]) (st' := [.int 4, .int x4]) (M' := M) (P := True) 2 rfl trivial ?_
  refine WX.icmp_ge (off := 91) (tgt := 100) rfl rfl (fun c1 => ?_) (fun c1 => ?_)
  · refine WX.run (pc' := 101) (L' := [some (.ref 37), some (.ref 46), some (.int x2), some (.int x3), some (.int x4), none, none]) (st' := [.int x3]) (M' := M) (P := True) 1 rfl trivial ?_
    exact WX.iret rfl rfl (h1 c1)
  · refine WX.run (pc' := 16) (L' := [some (.ref 37), some (.ref 46), some (.int x2), some (.int x3), some (.int x4), none, none]) (st' := [.int x4, .int x2, .ref 37]) (M' := M) (P := True) 3 rfl trivial ?_
    refine WX.callV (ca := mi_M_beside) (n := 2) (d' := 3) (st := []) (As := [.int x2, .int x4]) (q := 37) rfl lk_7_169 ck_M_beside cv_M_beside rfl (by decide) rfl (by decide) ⟨by decide, rfl, by decide⟩ (by intro w hw; simp only [List.mem_cons, List.not_mem_nil, or_false] at hw; rcases hw with rfl | rfl <;> rfl) (by decide) ?_
    refine wx_M_beside_37 M x2 x4 ?_
    show WX mi_M_nextOf 4 Q 19 [some (.ref 37), some (.ref 46), some (.int x2), some (.int x3), some (.int x4), none, none] [.int (z_M_beside_37 M x2 x4)] M
    refine WX.run (pc' := 25) (L' := [some (.ref 37), some (.ref 46), some (.int x2), some (.int x3), some (.int x4), some (.int (z_M_beside_37 M x2 x4)), none]) (st' := [.int (-9), .int (z_M_beside_37 M x2 x4)]) (M' := M) (P := True) 3 rfl trivial ?_
    refine WX.icmp_eq (off := 32) (tgt := 57) rfl rfl (fun c2 => ?_) (fun c2 => ?_)
    · refine WX.run (pc' := 62) (L' := [some (.ref 37), some (.ref 46), some (.int x2), some (.int x3), some (.int x4), some (.int (z_M_beside_37 M x2 x4)), some (.int 0)]) (st' := [.int 0]) (M' := M) (P := True) 3 rfl trivial ?_
      refine WX.if_eq (off := 30) (tgt := 92) rfl rfl (fun c3 => ?_) (fun c3 => ?_)
      · refine WX.run (pc' := 6) (L' := [some (.ref 37), some (.ref 46), some (.int x2), some (.int x3), some (.int (x4 + 1)), some (.int (z_M_beside_37 M x2 x4)), some (.int 0)]) (st' := []) (M' := M) (P := True) 4 rfl trivial ?_
        refine WX.forget2 (L' := [some (.ref 37), some (.ref 46), some (.int x2), some (.int x3), some (.int (x4 + 1)), none, none]) ?_ ⟨Or.inr rfl, Or.inr rfl, Or.inr rfl, Or.inr rfl, Or.inr rfl, Or.inl rfl, Or.inl rfl, trivial⟩
        exact (h2 c1 c2 c3)
      · refine WX.run (pc' := 68) (L' := [some (.ref 37), some (.ref 46), some (.int x2), some (.int x3), some (.int x4), some (.int (z_M_beside_37 M x2 x4)), some (.int 0)]) (st' := [.int (-9), .int x3]) (M' := M) (P := True) 2 rfl trivial ?_
        refine WX.icmp_eq (off := 19) (tgt := 87) rfl rfl (fun c4 => ?_) (fun c4 => ?_)
        · refine WX.run (pc' := 6) (L' := [some (.ref 37), some (.ref 46), some (.int x2), some (.int (z_M_beside_37 M x2 x4)), some (.int (x4 + 1)), some (.int (z_M_beside_37 M x2 x4)), some (.int 0)]) (st' := []) (M' := M) (P := True) 5 rfl trivial ?_
          refine WX.forget2 (L' := [some (.ref 37), some (.ref 46), some (.int x2), some (.int (z_M_beside_37 M x2 x4)), some (.int (x4 + 1)), none, none]) ?_ ⟨Or.inr rfl, Or.inr rfl, Or.inr rfl, Or.inr rfl, Or.inr rfl, Or.inl rfl, Or.inl rfl, trivial⟩
          exact (h3 c1 c2 c3 c4)
        · refine WX.run (pc' := 75) (L' := [some (.ref 37), some (.ref 46), some (.int x2), some (.int x3), some (.int x4), some (.int (z_M_beside_37 M x2 x4)), some (.int 0)]) (st' := [.int (z_M_beside_37 M x2 x4), .ref 46, .ref 37]) (M' := M) (P := True) 3 rfl trivial ?_
          refine WX.callV (ca := mi_M_heightOf) (n := 2) (d' := 2) (st := []) (As := [.ref 46, .int (z_M_beside_37 M x2 x4)]) (q := 37) rfl lk_7_178 ck_M_heightOf cv_M_heightOf rfl (by decide) rfl (by decide) ⟨by decide, rfl, by decide⟩ (by intro w hw; simp only [List.mem_cons, List.not_mem_nil, or_false] at hw; rcases hw with rfl | rfl <;> rfl) (by decide) ?_
          refine wx_M_heightOf_37_46 M (z_M_beside_37 M x2 x4) (b4 c1 c2 c3 c4) ?_
          show WX mi_M_nextOf 4 Q 78 [some (.ref 37), some (.ref 46), some (.int x2), some (.int x3), some (.int x4), some (.int (z_M_beside_37 M x2 x4)), some (.int 0)] [.int (z_M_heightOf_37_46 M (z_M_beside_37 M x2 x4))] M
          refine WX.run (pc' := 81) (L' := [some (.ref 37), some (.ref 46), some (.int x2), some (.int x3), some (.int x4), some (.int (z_M_beside_37 M x2 x4)), some (.int 0)]) (st' := [.int x3, .ref 46, .ref 37, .int (z_M_heightOf_37_46 M (z_M_beside_37 M x2 x4))]) (M' := M) (P := True) 3 rfl trivial ?_
          refine WX.callV (ca := mi_M_heightOf) (n := 2) (d' := 2) (st := [.int (z_M_heightOf_37_46 M (z_M_beside_37 M x2 x4))]) (As := [.ref 46, .int x3]) (q := 37) rfl lk_7_178 ck_M_heightOf cv_M_heightOf rfl (by decide) rfl (by decide) ⟨by decide, rfl, by decide⟩ (by intro w hw; simp only [List.mem_cons, List.not_mem_nil, or_false] at hw; rcases hw with rfl | rfl <;> rfl) (by decide) ?_
          refine wx_M_heightOf_37_46 M x3 (b5 c1 c2 c3 c4) ?_
          show WX mi_M_nextOf 4 Q 84 [some (.ref 37), some (.ref 46), some (.int x2), some (.int x3), some (.int x4), some (.int (z_M_beside_37 M x2 x4)), some (.int 0)] [.int (z_M_heightOf_37_46 M x3), .int (z_M_heightOf_37_46 M (z_M_beside_37 M x2 x4))] M
          refine WX.icmp_ge (off := 8) (tgt := 92) rfl rfl (fun c5 => ?_) (fun c5 => ?_)
          · refine WX.run (pc' := 6) (L' := [some (.ref 37), some (.ref 46), some (.int x2), some (.int x3), some (.int (x4 + 1)), some (.int (z_M_beside_37 M x2 x4)), some (.int 0)]) (st' := []) (M' := M) (P := True) 4 rfl trivial ?_
            refine WX.forget2 (L' := [some (.ref 37), some (.ref 46), some (.int x2), some (.int x3), some (.int (x4 + 1)), none, none]) ?_ ⟨Or.inr rfl, Or.inr rfl, Or.inr rfl, Or.inr rfl, Or.inr rfl, Or.inl rfl, Or.inl rfl, trivial⟩
            exact (h6 c1 c2 c3 c4 c5)
          · refine WX.run (pc' := 6) (L' := [some (.ref 37), some (.ref 46), some (.int x2), some (.int (z_M_beside_37 M x2 x4)), some (.int (x4 + 1)), some (.int (z_M_beside_37 M x2 x4)), some (.int 0)]) (st' := []) (M' := M) (P := True) 5 rfl trivial ?_
            refine WX.forget2 (L' := [some (.ref 37), some (.ref 46), some (.int x2), some (.int (z_M_beside_37 M x2 x4)), some (.int (x4 + 1)), none, none]) ?_ ⟨Or.inr rfl, Or.inr rfl, Or.inr rfl, Or.inr rfl, Or.inr rfl, Or.inl rfl, Or.inl rfl, trivial⟩
            exact (h7 c1 c2 c3 c4 c5)
    · refine WX.run (pc' := 31) (L' := [some (.ref 37), some (.ref 46), some (.int x2), some (.int x3), some (.int x4), some (.int (z_M_beside_37 M x2 x4)), none]) (st' := [.int (z_M_beside_37 M x2 x4), .ref 37]) (M' := M) (P := True) 2 rfl trivial ?_
      refine WX.callV (ca := mi_M_isLid) (n := 1) (d' := 1) (st := []) (As := [.int (z_M_beside_37 M x2 x4)]) (q := 37) rfl lk_7_134 ck_M_isLid cv_M_isLid rfl (by decide) rfl (by decide) ⟨by decide, rfl, by decide⟩ (by intro w hw; simp only [List.mem_cons, List.not_mem_nil, or_false] at hw; rcases hw with rfl <;> rfl) (by decide) ?_
      refine wx_M_isLid_37 M (z_M_beside_37 M x2 x4) ?_
      show WX mi_M_nextOf 4 Q 34 [some (.ref 37), some (.ref 46), some (.int x2), some (.int x3), some (.int x4), some (.int (z_M_beside_37 M x2 x4)), none] [.int (z_M_isLid_37 M (z_M_beside_37 M x2 x4))] M
      refine WX.if_ne (off := 23) (tgt := 57) rfl rfl (fun c6 => ?_) (fun c6 => ?_)
      · refine WX.run (pc' := 62) (L' := [some (.ref 37), some (.ref 46), some (.int x2), some (.int x3), some (.int x4), some (.int (z_M_beside_37 M x2 x4)), some (.int 0)]) (st' := [.int 0]) (M' := M) (P := True) 3 rfl trivial ?_
        refine WX.if_eq (off := 30) (tgt := 92) rfl rfl (fun c7 => ?_) (fun c7 => ?_)
        · refine WX.run (pc' := 6) (L' := [some (.ref 37), some (.ref 46), some (.int x2), some (.int x3), some (.int (x4 + 1)), some (.int (z_M_beside_37 M x2 x4)), some (.int 0)]) (st' := []) (M' := M) (P := True) 4 rfl trivial ?_
          refine WX.forget2 (L' := [some (.ref 37), some (.ref 46), some (.int x2), some (.int x3), some (.int (x4 + 1)), none, none]) ?_ ⟨Or.inr rfl, Or.inr rfl, Or.inr rfl, Or.inr rfl, Or.inr rfl, Or.inl rfl, Or.inl rfl, trivial⟩
          exact (h8 c1 c2 c6 c7)
        · refine WX.run (pc' := 68) (L' := [some (.ref 37), some (.ref 46), some (.int x2), some (.int x3), some (.int x4), some (.int (z_M_beside_37 M x2 x4)), some (.int 0)]) (st' := [.int (-9), .int x3]) (M' := M) (P := True) 2 rfl trivial ?_
          refine WX.icmp_eq (off := 19) (tgt := 87) rfl rfl (fun c8 => ?_) (fun c8 => ?_)
          · refine WX.run (pc' := 6) (L' := [some (.ref 37), some (.ref 46), some (.int x2), some (.int (z_M_beside_37 M x2 x4)), some (.int (x4 + 1)), some (.int (z_M_beside_37 M x2 x4)), some (.int 0)]) (st' := []) (M' := M) (P := True) 5 rfl trivial ?_
            refine WX.forget2 (L' := [some (.ref 37), some (.ref 46), some (.int x2), some (.int (z_M_beside_37 M x2 x4)), some (.int (x4 + 1)), none, none]) ?_ ⟨Or.inr rfl, Or.inr rfl, Or.inr rfl, Or.inr rfl, Or.inr rfl, Or.inl rfl, Or.inl rfl, trivial⟩
            exact (h9 c1 c2 c6 c7 c8)
          · refine WX.run (pc' := 75) (L' := [some (.ref 37), some (.ref 46), some (.int x2), some (.int x3), some (.int x4), some (.int (z_M_beside_37 M x2 x4)), some (.int 0)]) (st' := [.int (z_M_beside_37 M x2 x4), .ref 46, .ref 37]) (M' := M) (P := True) 3 rfl trivial ?_
            refine WX.callV (ca := mi_M_heightOf) (n := 2) (d' := 2) (st := []) (As := [.ref 46, .int (z_M_beside_37 M x2 x4)]) (q := 37) rfl lk_7_178 ck_M_heightOf cv_M_heightOf rfl (by decide) rfl (by decide) ⟨by decide, rfl, by decide⟩ (by intro w hw; simp only [List.mem_cons, List.not_mem_nil, or_false] at hw; rcases hw with rfl | rfl <;> rfl) (by decide) ?_
            refine wx_M_heightOf_37_46 M (z_M_beside_37 M x2 x4) (b10 c1 c2 c6 c7 c8) ?_
            show WX mi_M_nextOf 4 Q 78 [some (.ref 37), some (.ref 46), some (.int x2), some (.int x3), some (.int x4), some (.int (z_M_beside_37 M x2 x4)), some (.int 0)] [.int (z_M_heightOf_37_46 M (z_M_beside_37 M x2 x4))] M
            refine WX.run (pc' := 81) (L' := [some (.ref 37), some (.ref 46), some (.int x2), some (.int x3), some (.int x4), some (.int (z_M_beside_37 M x2 x4)), some (.int 0)]) (st' := [.int x3, .ref 46, .ref 37, .int (z_M_heightOf_37_46 M (z_M_beside_37 M x2 x4))]) (M' := M) (P := True) 3 rfl trivial ?_
            refine WX.callV (ca := mi_M_heightOf) (n := 2) (d' := 2) (st := [.int (z_M_heightOf_37_46 M (z_M_beside_37 M x2 x4))]) (As := [.ref 46, .int x3]) (q := 37) rfl lk_7_178 ck_M_heightOf cv_M_heightOf rfl (by decide) rfl (by decide) ⟨by decide, rfl, by decide⟩ (by intro w hw; simp only [List.mem_cons, List.not_mem_nil, or_false] at hw; rcases hw with rfl | rfl <;> rfl) (by decide) ?_
            refine wx_M_heightOf_37_46 M x3 (b11 c1 c2 c6 c7 c8) ?_
            show WX mi_M_nextOf 4 Q 84 [some (.ref 37), some (.ref 46), some (.int x2), some (.int x3), some (.int x4), some (.int (z_M_beside_37 M x2 x4)), some (.int 0)] [.int (z_M_heightOf_37_46 M x3), .int (z_M_heightOf_37_46 M (z_M_beside_37 M x2 x4))] M
            refine WX.icmp_ge (off := 8) (tgt := 92) rfl rfl (fun c9 => ?_) (fun c9 => ?_)
            · refine WX.run (pc' := 6) (L' := [some (.ref 37), some (.ref 46), some (.int x2), some (.int x3), some (.int (x4 + 1)), some (.int (z_M_beside_37 M x2 x4)), some (.int 0)]) (st' := []) (M' := M) (P := True) 4 rfl trivial ?_
              refine WX.forget2 (L' := [some (.ref 37), some (.ref 46), some (.int x2), some (.int x3), some (.int (x4 + 1)), none, none]) ?_ ⟨Or.inr rfl, Or.inr rfl, Or.inr rfl, Or.inr rfl, Or.inr rfl, Or.inl rfl, Or.inl rfl, trivial⟩
              exact (h12 c1 c2 c6 c7 c8 c9)
            · refine WX.run (pc' := 6) (L' := [some (.ref 37), some (.ref 46), some (.int x2), some (.int (z_M_beside_37 M x2 x4)), some (.int (x4 + 1)), some (.int (z_M_beside_37 M x2 x4)), some (.int 0)]) (st' := []) (M' := M) (P := True) 5 rfl trivial ?_
              refine WX.forget2 (L' := [some (.ref 37), some (.ref 46), some (.int x2), some (.int (z_M_beside_37 M x2 x4)), some (.int (x4 + 1)), none, none]) ?_ ⟨Or.inr rfl, Or.inr rfl, Or.inr rfl, Or.inr rfl, Or.inr rfl, Or.inl rfl, Or.inl rfl, trivial⟩
              exact (h13 c1 c2 c6 c7 c8 c9)
      · refine WX.run (pc' := 41) (L' := [some (.ref 37), some (.ref 46), some (.int x2), some (.int x3), some (.int x4), some (.int (z_M_beside_37 M x2 x4)), none]) (st' := [.int (z_M_beside_37 M x2 x4), .ref 46, .ref 37]) (M' := M) (P := True) 3 rfl trivial ?_
        refine WX.callV (ca := mi_M_heightOf) (n := 2) (d' := 2) (st := []) (As := [.ref 46, .int (z_M_beside_37 M x2 x4)]) (q := 37) rfl lk_7_178 ck_M_heightOf cv_M_heightOf rfl (by decide) rfl (by decide) ⟨by decide, rfl, by decide⟩ (by intro w hw; simp only [List.mem_cons, List.not_mem_nil, or_false] at hw; rcases hw with rfl | rfl <;> rfl) (by decide) ?_
        refine wx_M_heightOf_37_46 M (z_M_beside_37 M x2 x4) (b14 c1 c2 c6) ?_
        show WX mi_M_nextOf 4 Q 44 [some (.ref 37), some (.ref 46), some (.int x2), some (.int x3), some (.int x4), some (.int (z_M_beside_37 M x2 x4)), none] [.int (z_M_heightOf_37_46 M (z_M_beside_37 M x2 x4))] M
        refine WX.run (pc' := 47) (L' := [some (.ref 37), some (.ref 46), some (.int x2), some (.int x3), some (.int x4), some (.int (z_M_beside_37 M x2 x4)), none]) (st' := [.int x2, .ref 46, .ref 37, .int (z_M_heightOf_37_46 M (z_M_beside_37 M x2 x4))]) (M' := M) (P := True) 3 rfl trivial ?_
        refine WX.callV (ca := mi_M_heightOf) (n := 2) (d' := 2) (st := [.int (z_M_heightOf_37_46 M (z_M_beside_37 M x2 x4))]) (As := [.ref 46, .int x2]) (q := 37) rfl lk_7_178 ck_M_heightOf cv_M_heightOf rfl (by decide) rfl (by decide) ⟨by decide, rfl, by decide⟩ (by intro w hw; simp only [List.mem_cons, List.not_mem_nil, or_false] at hw; rcases hw with rfl | rfl <;> rfl) (by decide) ?_
        refine wx_M_heightOf_37_46 M x2 (b15 c1 c2 c6) ?_
        show WX mi_M_nextOf 4 Q 50 [some (.ref 37), some (.ref 46), some (.int x2), some (.int x3), some (.int x4), some (.int (z_M_beside_37 M x2 x4)), none] [.int (z_M_heightOf_37_46 M x2), .int (z_M_heightOf_37_46 M (z_M_beside_37 M x2 x4))] M
        refine WX.icmp_ge (off := 7) (tgt := 57) rfl rfl (fun c10 => ?_) (fun c10 => ?_)
        · refine WX.run (pc' := 62) (L' := [some (.ref 37), some (.ref 46), some (.int x2), some (.int x3), some (.int x4), some (.int (z_M_beside_37 M x2 x4)), some (.int 0)]) (st' := [.int 0]) (M' := M) (P := True) 3 rfl trivial ?_
          refine WX.if_eq (off := 30) (tgt := 92) rfl rfl (fun c11 => ?_) (fun c11 => ?_)
          · refine WX.run (pc' := 6) (L' := [some (.ref 37), some (.ref 46), some (.int x2), some (.int x3), some (.int (x4 + 1)), some (.int (z_M_beside_37 M x2 x4)), some (.int 0)]) (st' := []) (M' := M) (P := True) 4 rfl trivial ?_
            refine WX.forget2 (L' := [some (.ref 37), some (.ref 46), some (.int x2), some (.int x3), some (.int (x4 + 1)), none, none]) ?_ ⟨Or.inr rfl, Or.inr rfl, Or.inr rfl, Or.inr rfl, Or.inr rfl, Or.inl rfl, Or.inl rfl, trivial⟩
            exact (h16 c1 c2 c6 c10 c11)
          · refine WX.run (pc' := 68) (L' := [some (.ref 37), some (.ref 46), some (.int x2), some (.int x3), some (.int x4), some (.int (z_M_beside_37 M x2 x4)), some (.int 0)]) (st' := [.int (-9), .int x3]) (M' := M) (P := True) 2 rfl trivial ?_
            refine WX.icmp_eq (off := 19) (tgt := 87) rfl rfl (fun c12 => ?_) (fun c12 => ?_)
            · refine WX.run (pc' := 6) (L' := [some (.ref 37), some (.ref 46), some (.int x2), some (.int (z_M_beside_37 M x2 x4)), some (.int (x4 + 1)), some (.int (z_M_beside_37 M x2 x4)), some (.int 0)]) (st' := []) (M' := M) (P := True) 5 rfl trivial ?_
              refine WX.forget2 (L' := [some (.ref 37), some (.ref 46), some (.int x2), some (.int (z_M_beside_37 M x2 x4)), some (.int (x4 + 1)), none, none]) ?_ ⟨Or.inr rfl, Or.inr rfl, Or.inr rfl, Or.inr rfl, Or.inr rfl, Or.inl rfl, Or.inl rfl, trivial⟩
              exact (h17 c1 c2 c6 c10 c11 c12)
            · refine WX.run (pc' := 75) (L' := [some (.ref 37), some (.ref 46), some (.int x2), some (.int x3), some (.int x4), some (.int (z_M_beside_37 M x2 x4)), some (.int 0)]) (st' := [.int (z_M_beside_37 M x2 x4), .ref 46, .ref 37]) (M' := M) (P := True) 3 rfl trivial ?_
              refine WX.callV (ca := mi_M_heightOf) (n := 2) (d' := 2) (st := []) (As := [.ref 46, .int (z_M_beside_37 M x2 x4)]) (q := 37) rfl lk_7_178 ck_M_heightOf cv_M_heightOf rfl (by decide) rfl (by decide) ⟨by decide, rfl, by decide⟩ (by intro w hw; simp only [List.mem_cons, List.not_mem_nil, or_false] at hw; rcases hw with rfl | rfl <;> rfl) (by decide) ?_
              refine wx_M_heightOf_37_46 M (z_M_beside_37 M x2 x4) (b18 c1 c2 c6 c10 c11 c12) ?_
              show WX mi_M_nextOf 4 Q 78 [some (.ref 37), some (.ref 46), some (.int x2), some (.int x3), some (.int x4), some (.int (z_M_beside_37 M x2 x4)), some (.int 0)] [.int (z_M_heightOf_37_46 M (z_M_beside_37 M x2 x4))] M
              refine WX.run (pc' := 81) (L' := [some (.ref 37), some (.ref 46), some (.int x2), some (.int x3), some (.int x4), some (.int (z_M_beside_37 M x2 x4)), some (.int 0)]) (st' := [.int x3, .ref 46, .ref 37, .int (z_M_heightOf_37_46 M (z_M_beside_37 M x2 x4))]) (M' := M) (P := True) 3 rfl trivial ?_
              refine WX.callV (ca := mi_M_heightOf) (n := 2) (d' := 2) (st := [.int (z_M_heightOf_37_46 M (z_M_beside_37 M x2 x4))]) (As := [.ref 46, .int x3]) (q := 37) rfl lk_7_178 ck_M_heightOf cv_M_heightOf rfl (by decide) rfl (by decide) ⟨by decide, rfl, by decide⟩ (by intro w hw; simp only [List.mem_cons, List.not_mem_nil, or_false] at hw; rcases hw with rfl | rfl <;> rfl) (by decide) ?_
              refine wx_M_heightOf_37_46 M x3 (b19 c1 c2 c6 c10 c11 c12) ?_
              show WX mi_M_nextOf 4 Q 84 [some (.ref 37), some (.ref 46), some (.int x2), some (.int x3), some (.int x4), some (.int (z_M_beside_37 M x2 x4)), some (.int 0)] [.int (z_M_heightOf_37_46 M x3), .int (z_M_heightOf_37_46 M (z_M_beside_37 M x2 x4))] M
              refine WX.icmp_ge (off := 8) (tgt := 92) rfl rfl (fun c13 => ?_) (fun c13 => ?_)
              · refine WX.run (pc' := 6) (L' := [some (.ref 37), some (.ref 46), some (.int x2), some (.int x3), some (.int (x4 + 1)), some (.int (z_M_beside_37 M x2 x4)), some (.int 0)]) (st' := []) (M' := M) (P := True) 4 rfl trivial ?_
                refine WX.forget2 (L' := [some (.ref 37), some (.ref 46), some (.int x2), some (.int x3), some (.int (x4 + 1)), none, none]) ?_ ⟨Or.inr rfl, Or.inr rfl, Or.inr rfl, Or.inr rfl, Or.inr rfl, Or.inl rfl, Or.inl rfl, trivial⟩
                exact (h20 c1 c2 c6 c10 c11 c12 c13)
              · refine WX.run (pc' := 6) (L' := [some (.ref 37), some (.ref 46), some (.int x2), some (.int (z_M_beside_37 M x2 x4)), some (.int (x4 + 1)), some (.int (z_M_beside_37 M x2 x4)), some (.int 0)]) (st' := []) (M' := M) (P := True) 5 rfl trivial ?_
                refine WX.forget2 (L' := [some (.ref 37), some (.ref 46), some (.int x2), some (.int (z_M_beside_37 M x2 x4)), some (.int (x4 + 1)), none, none]) ?_ ⟨Or.inr rfl, Or.inr rfl, Or.inr rfl, Or.inr rfl, Or.inr rfl, Or.inl rfl, Or.inl rfl, trivial⟩
                exact (h21 c1 c2 c6 c10 c11 c12 c13)
        · refine WX.run (pc' := 62) (L' := [some (.ref 37), some (.ref 46), some (.int x2), some (.int x3), some (.int x4), some (.int (z_M_beside_37 M x2 x4)), some (.int 1)]) (st' := [.int 1]) (M' := M) (P := True) 4 rfl trivial ?_
          refine WX.if_eq (off := 30) (tgt := 92) rfl rfl (fun c14 => ?_) (fun c14 => ?_)
          · refine WX.run (pc' := 6) (L' := [some (.ref 37), some (.ref 46), some (.int x2), some (.int x3), some (.int (x4 + 1)), some (.int (z_M_beside_37 M x2 x4)), some (.int 1)]) (st' := []) (M' := M) (P := True) 4 rfl trivial ?_
            refine WX.forget2 (L' := [some (.ref 37), some (.ref 46), some (.int x2), some (.int x3), some (.int (x4 + 1)), none, none]) ?_ ⟨Or.inr rfl, Or.inr rfl, Or.inr rfl, Or.inr rfl, Or.inr rfl, Or.inl rfl, Or.inl rfl, trivial⟩
            exact (h22 c1 c2 c6 c10 c14)
          · refine WX.run (pc' := 68) (L' := [some (.ref 37), some (.ref 46), some (.int x2), some (.int x3), some (.int x4), some (.int (z_M_beside_37 M x2 x4)), some (.int 1)]) (st' := [.int (-9), .int x3]) (M' := M) (P := True) 2 rfl trivial ?_
            refine WX.icmp_eq (off := 19) (tgt := 87) rfl rfl (fun c15 => ?_) (fun c15 => ?_)
            · refine WX.run (pc' := 6) (L' := [some (.ref 37), some (.ref 46), some (.int x2), some (.int (z_M_beside_37 M x2 x4)), some (.int (x4 + 1)), some (.int (z_M_beside_37 M x2 x4)), some (.int 1)]) (st' := []) (M' := M) (P := True) 5 rfl trivial ?_
              refine WX.forget2 (L' := [some (.ref 37), some (.ref 46), some (.int x2), some (.int (z_M_beside_37 M x2 x4)), some (.int (x4 + 1)), none, none]) ?_ ⟨Or.inr rfl, Or.inr rfl, Or.inr rfl, Or.inr rfl, Or.inr rfl, Or.inl rfl, Or.inl rfl, trivial⟩
              exact (h23 c1 c2 c6 c10 c14 c15)
            · refine WX.run (pc' := 75) (L' := [some (.ref 37), some (.ref 46), some (.int x2), some (.int x3), some (.int x4), some (.int (z_M_beside_37 M x2 x4)), some (.int 1)]) (st' := [.int (z_M_beside_37 M x2 x4), .ref 46, .ref 37]) (M' := M) (P := True) 3 rfl trivial ?_
              refine WX.callV (ca := mi_M_heightOf) (n := 2) (d' := 2) (st := []) (As := [.ref 46, .int (z_M_beside_37 M x2 x4)]) (q := 37) rfl lk_7_178 ck_M_heightOf cv_M_heightOf rfl (by decide) rfl (by decide) ⟨by decide, rfl, by decide⟩ (by intro w hw; simp only [List.mem_cons, List.not_mem_nil, or_false] at hw; rcases hw with rfl | rfl <;> rfl) (by decide) ?_
              refine wx_M_heightOf_37_46 M (z_M_beside_37 M x2 x4) (b24 c1 c2 c6 c10 c14 c15) ?_
              show WX mi_M_nextOf 4 Q 78 [some (.ref 37), some (.ref 46), some (.int x2), some (.int x3), some (.int x4), some (.int (z_M_beside_37 M x2 x4)), some (.int 1)] [.int (z_M_heightOf_37_46 M (z_M_beside_37 M x2 x4))] M
              refine WX.run (pc' := 81) (L' := [some (.ref 37), some (.ref 46), some (.int x2), some (.int x3), some (.int x4), some (.int (z_M_beside_37 M x2 x4)), some (.int 1)]) (st' := [.int x3, .ref 46, .ref 37, .int (z_M_heightOf_37_46 M (z_M_beside_37 M x2 x4))]) (M' := M) (P := True) 3 rfl trivial ?_
              refine WX.callV (ca := mi_M_heightOf) (n := 2) (d' := 2) (st := [.int (z_M_heightOf_37_46 M (z_M_beside_37 M x2 x4))]) (As := [.ref 46, .int x3]) (q := 37) rfl lk_7_178 ck_M_heightOf cv_M_heightOf rfl (by decide) rfl (by decide) ⟨by decide, rfl, by decide⟩ (by intro w hw; simp only [List.mem_cons, List.not_mem_nil, or_false] at hw; rcases hw with rfl | rfl <;> rfl) (by decide) ?_
              refine wx_M_heightOf_37_46 M x3 (b25 c1 c2 c6 c10 c14 c15) ?_
              show WX mi_M_nextOf 4 Q 84 [some (.ref 37), some (.ref 46), some (.int x2), some (.int x3), some (.int x4), some (.int (z_M_beside_37 M x2 x4)), some (.int 1)] [.int (z_M_heightOf_37_46 M x3), .int (z_M_heightOf_37_46 M (z_M_beside_37 M x2 x4))] M
              refine WX.icmp_ge (off := 8) (tgt := 92) rfl rfl (fun c16 => ?_) (fun c16 => ?_)
              · refine WX.run (pc' := 6) (L' := [some (.ref 37), some (.ref 46), some (.int x2), some (.int x3), some (.int (x4 + 1)), some (.int (z_M_beside_37 M x2 x4)), some (.int 1)]) (st' := []) (M' := M) (P := True) 4 rfl trivial ?_
                refine WX.forget2 (L' := [some (.ref 37), some (.ref 46), some (.int x2), some (.int x3), some (.int (x4 + 1)), none, none]) ?_ ⟨Or.inr rfl, Or.inr rfl, Or.inr rfl, Or.inr rfl, Or.inr rfl, Or.inl rfl, Or.inl rfl, trivial⟩
                exact (h26 c1 c2 c6 c10 c14 c15 c16)
              · refine WX.run (pc' := 6) (L' := [some (.ref 37), some (.ref 46), some (.int x2), some (.int (z_M_beside_37 M x2 x4)), some (.int (x4 + 1)), some (.int (z_M_beside_37 M x2 x4)), some (.int 1)]) (st' := []) (M' := M) (P := True) 5 rfl trivial ?_
                refine WX.forget2 (L' := [some (.ref 37), some (.ref 46), some (.int x2), some (.int (z_M_beside_37 M x2 x4)), some (.int (x4 + 1)), none, none]) ?_ ⟨Or.inr rfl, Or.inr rfl, Or.inr rfl, Or.inr rfl, Or.inr rfl, Or.inl rfl, Or.inl rfl, trivial⟩
                exact (h27 c1 c2 c6 c10 c14 c15 c16)
theorem sg_M_puddles_37_46_0 {Q : Option Value → Mem → Prop} (M : Mem)
    (h1 : WX mi_M_puddles 5 Q 4 [some (.ref 37), some (.ref 46), some (.int 0), some (.int 0)] [] M) :
    WX mi_M_puddles 5 Q 0 [some (.ref 37), some (.ref 46), none, none] [] M := by
  refine WX.run (pc' := 4) (L' := [some (.ref 37), some (.ref 46), some (.int 0), some (.int 0)]) (st' := []) (M' := M) (P := True) 4 rfl trivial ?_
  exact h1
theorem sg_M_puddles_37_46_4 {Q : Option Value → Mem → Prop} (M : Mem) (x2 x3 : Int32)
    (h1 : 16 ≤ x3 → Q (some (.int x2)) M)
    (b2 : ¬ 16 ≤ x3 → ((z_M_isCell_37 M (rem x3 4) (x3 / 4)) = 0 ∨ (z_M_isCell_37 M (rem x3 4) (x3 / 4)) = 1))
    (h3 : ¬ 16 ≤ x3 → (z_M_isDry_37 M x3) = 0 → WX mi_M_puddles 5 Q 4 [some (.ref 37), some (.ref 46), some (.int (x2 ||| 0)), some (.int (x3 + 1))] [] M)
    (h4 : ¬ 16 ≤ x3 → ¬ (z_M_isDry_37 M x3) = 0 → ¬ (z_M_isDrain_37 M x3) = 0 → WX mi_M_puddles 5 Q 4 [some (.ref 37), some (.ref 46), some (.int (x2 ||| 0)), some (.int (x3 + 1))] [] M)
    (h5 : ¬ 16 ≤ x3 → ¬ (z_M_isDry_37 M x3) = 0 → (z_M_isDrain_37 M x3) = 0 → WX mi_M_nextOf 4 (fun rv M' => WX mi_M_puddles 5 Q 33 [some (.ref 37), some (.ref 46), some (.int x2), some (.int x3)] (rv.toList ++ [.int x2]) M') 0 [some (.ref 37), some (.ref 46), some (.int x3), none, none, none, none] [] M) :
    WX mi_M_puddles 5 Q 4 [some (.ref 37), some (.ref 46), some (.int x2), some (.int x3)] [] M := by
  refine WX.run (pc' := 7) (L' := [some (.ref 37), some (.ref 46), some (.int x2), some (.int x3)]) (st' := [.int 16, .int x3]) (M' := M) (P := True) 2 rfl trivial ?_
  refine WX.icmp_ge (off := 46) (tgt := 53) rfl rfl (fun c1 => ?_) (fun c1 => ?_)
  · refine WX.run (pc' := 54) (L' := [some (.ref 37), some (.ref 46), some (.int x2), some (.int x3)]) (st' := [.int x2]) (M' := M) (P := True) 1 rfl trivial ?_
    exact WX.iret rfl rfl (h1 c1)
  · refine WX.run (pc' := 13) (L' := [some (.ref 37), some (.ref 46), some (.int x2), some (.int x3)]) (st' := [.int x3, .ref 37, .int x2]) (M' := M) (P := True) 3 rfl trivial ?_
    refine WX.callV (ca := mi_M_isDry) (n := 1) (d' := 4) (st := [.int x2]) (As := [.int x3]) (q := 37) rfl lk_7_184 ck_M_isDry cv_M_isDry rfl (by decide) rfl (by decide) ⟨by decide, rfl, by decide⟩ (by intro w hw; simp only [List.mem_cons, List.not_mem_nil, or_false] at hw; rcases hw with rfl <;> rfl) (by decide) ?_
    refine wx_M_isDry_37 M x3 (b2 c1) ?_
    show WX mi_M_puddles 5 Q 16 [some (.ref 37), some (.ref 46), some (.int x2), some (.int x3)] [.int (z_M_isDry_37 M x3), .int x2] M
    refine WX.if_eq (off := 28) (tgt := 44) rfl rfl (fun c2 => ?_) (fun c2 => ?_)
    · refine WX.run (pc' := 4) (L' := [some (.ref 37), some (.ref 46), some (.int (x2 ||| 0)), some (.int (x3 + 1))]) (st' := []) (M' := M) (P := True) 5 rfl trivial ?_
      exact (h3 c1 c2)
    · refine WX.run (pc' := 21) (L' := [some (.ref 37), some (.ref 46), some (.int x2), some (.int x3)]) (st' := [.int x3, .ref 37, .int x2]) (M' := M) (P := True) 2 rfl trivial ?_
      refine WX.callV (ca := mi_M_isDrain) (n := 1) (d' := 1) (st := [.int x2]) (As := [.int x3]) (q := 37) rfl lk_7_138 ck_M_isDrain cv_M_isDrain rfl (by decide) rfl (by decide) ⟨by decide, rfl, by decide⟩ (by intro w hw; simp only [List.mem_cons, List.not_mem_nil, or_false] at hw; rcases hw with rfl <;> rfl) (by decide) ?_
      refine wx_M_isDrain_37 M x3 ?_
      show WX mi_M_puddles 5 Q 24 [some (.ref 37), some (.ref 46), some (.int x2), some (.int x3)] [.int (z_M_isDrain_37 M x3), .int x2] M
      refine WX.if_ne (off := 20) (tgt := 44) rfl rfl (fun c3 => ?_) (fun c3 => ?_)
      · refine WX.run (pc' := 4) (L' := [some (.ref 37), some (.ref 46), some (.int (x2 ||| 0)), some (.int (x3 + 1))]) (st' := []) (M' := M) (P := True) 5 rfl trivial ?_
        exact (h4 c1 c2 c3)
      · refine WX.run (pc' := 30) (L' := [some (.ref 37), some (.ref 46), some (.int x2), some (.int x3)]) (st' := [.int x3, .ref 46, .ref 37, .int x2]) (M' := M) (P := True) 3 rfl trivial ?_
        refine WX.callV (ca := mi_M_nextOf) (n := 2) (d' := 4) (st := [.int x2]) (As := [.ref 46, .int x3]) (q := 37) rfl lk_7_181 ck_M_nextOf cv_M_nextOf rfl (by decide) rfl (by decide) ⟨by decide, rfl, by decide⟩ (by intro w hw; simp only [List.mem_cons, List.not_mem_nil, or_false] at hw; rcases hw with rfl | rfl <;> rfl) (by decide) ?_
        exact (h5 c1 c2 c3)
theorem sg_M_puddles_37_46_33 {Q : Option Value → Mem → Prop} (M : Mem) (x2 x3 r s1 : Int32)
    (h1 : ¬ r = (-9) → WX mi_M_puddles 5 Q 4 [some (.ref 37), some (.ref 46), some (.int (s1 ||| 0)), some (.int (x3 + 1))] [] M)
    (h2 : r = (-9) → WX mi_M_puddles 5 Q 4 [some (.ref 37), some (.ref 46), some (.int (s1 ||| (shl 1 x3))), some (.int (x3 + 1))] [] M) :
    WX mi_M_puddles 5 Q 33 [some (.ref 37), some (.ref 46), some (.int x2), some (.int x3)] [.int r, .int s1] M := by
  refine WX.run (pc' := 35) (L' := [some (.ref 37), some (.ref 46), some (.int x2), some (.int x3)]) (st' := [.int (-9), .int r, .int s1]) (M' := M) (P := True) 1 rfl trivial ?_
  refine WX.icmp_ne (off := 9) (tgt := 44) rfl rfl (fun c1 => ?_) (fun c1 => ?_)
  · refine WX.run (pc' := 4) (L' := [some (.ref 37), some (.ref 46), some (.int (s1 ||| 0)), some (.int (x3 + 1))]) (st' := []) (M' := M) (P := True) 5 rfl trivial ?_
    exact (h1 c1)
  · refine WX.run (pc' := 4) (L' := [some (.ref 37), some (.ref 46), some (.int (s1 ||| (shl 1 x3))), some (.int (x3 + 1))]) (st' := []) (M' := M) (P := True) 8 rfl trivial ?_
    exact (h2 c1)
theorem sg_M_heightOf_37_48_0 {Q : Option Value → Mem → Prop} (M : Mem) (x2 : Int32)
    (b1 : (z_M_isDrain_37 M x2) = 0 → vp_in x2 16)
    (h2 : (z_M_isDrain_37 M x2) = 0 → Q (some (.int (M.1 48 x2.toNatClampNeg))) M)
    (h3 : ¬ (z_M_isDrain_37 M x2) = 0 → Q (some (.int (-1))) M) :
    WX mi_M_heightOf 2 Q 0 [some (.ref 37), some (.ref 48), some (.int x2)] [] M := by
  refine WX.run (pc' := 2) (L' := [some (.ref 37), some (.ref 48), some (.int x2)]) (st' := [.int x2, .ref 37]) (M' := M) (P := True) 2 rfl trivial ?_
  refine WX.callV (ca := mi_M_isDrain) (n := 1) (d' := 1) (st := []) (As := [.int x2]) (q := 37) rfl lk_7_138 ck_M_isDrain cv_M_isDrain rfl (by decide) rfl (by decide) ⟨by decide, rfl, by decide⟩ (by intro w hw; simp only [List.mem_cons, List.not_mem_nil, or_false] at hw; rcases hw with rfl <;> rfl) (by decide) ?_
  refine wx_M_isDrain_37 M x2 ?_
  show WX mi_M_heightOf 2 Q 5 [some (.ref 37), some (.ref 48), some (.int x2)] [.int (z_M_isDrain_37 M x2)] M
  refine WX.if_eq (off := 7) (tgt := 12) rfl rfl (fun c1 => ?_) (fun c1 => ?_)
  · refine WX.run (pc' := 15) (L' := [some (.ref 37), some (.ref 48), some (.int x2)]) (st' := [.int (M.1 48 x2.toNatClampNeg)]) (M' := M) (P := (True ∧ vp_in x2 16)) 3 rfl ⟨trivial, (b1 c1)⟩ ?_
    exact WX.iret rfl rfl (h2 c1)
  · refine WX.run (pc' := 15) (L' := [some (.ref 37), some (.ref 48), some (.int x2)]) (st' := [.int (-1)]) (M' := M) (P := True) 2 rfl trivial ?_
    exact WX.iret rfl rfl (h3 c1)
def z_M_heightOf_37_48 (M : Mem) (x2 : Int32) : Int32 := (if (z_M_isDrain_37 M x2) = 0 then (M.1 48 x2.toNatClampNeg) else (-1))
theorem wx_M_heightOf_37_48 {Q : Option Value → Mem → Prop} (M : Mem) (x2 : Int32)
    (b1 : (z_M_isDrain_37 M x2) = 0 → vp_in x2 16)
    (h : Q (some (.int (z_M_heightOf_37_48 M x2))) M) :
    WX mi_M_heightOf 2 Q 0 [some (.ref 37), some (.ref 48), some (.int x2)] [] M := by
  refine sg_M_heightOf_37_48_0 M x2
    b1
    (fun c1 => by
      unfold z_M_heightOf_37_48 at h
      rw [if_pos c1] at h
      exact h)
    (fun c1 => by
      unfold z_M_heightOf_37_48 at h
      rw [if_neg c1] at h
      exact h)
theorem sg_M_nextOf_37_48_0 {Q : Option Value → Mem → Prop} (M : Mem) (x2 : Int32)
    (h1 : WX mi_M_nextOf 4 Q 6 [some (.ref 37), some (.ref 48), some (.int x2), some (.int (-9)), some (.int 0), none, none] [] M) :
    WX mi_M_nextOf 4 Q 0 [some (.ref 37), some (.ref 48), some (.int x2), none, none, none, none] [] M := by
  refine WX.run (pc' := 6) (L' := [some (.ref 37), some (.ref 48), some (.int x2), some (.int (-9)), some (.int 0), none, none]) (st' := []) (M' := M) (P := True) 4 rfl trivial ?_
  exact h1
theorem sg_M_nextOf_37_48_6 {Q : Option Value → Mem → Prop} (M : Mem) (x2 x3 x4 : Int32)
    (h1 : 4 ≤ x4 → Q (some (.int x3)) M)
    (h2 : ¬ 4 ≤ x4 → (z_M_beside_37 M x2 x4) = (-9) → 0 = 0 → WX mi_M_nextOf 4 Q 6 [some (.ref 37), some (.ref 48), some (.int x2), some (.int x3), some (.int (x4 + 1)), none, none] [] M)
    (h3 : ¬ 4 ≤ x4 → (z_M_beside_37 M x2 x4) = (-9) → ¬ 0 = 0 → x3 = (-9) → WX mi_M_nextOf 4 Q 6 [some (.ref 37), some (.ref 48), some (.int x2), some (.int (z_M_beside_37 M x2 x4)), some (.int (x4 + 1)), none, none] [] M)
    (b4 : ¬ 4 ≤ x4 → (z_M_beside_37 M x2 x4) = (-9) → ¬ 0 = 0 → ¬ x3 = (-9) → (z_M_isDrain_37 M (z_M_beside_37 M x2 x4)) = 0 → vp_in (z_M_beside_37 M x2 x4) 16)
    (b5 : ¬ 4 ≤ x4 → (z_M_beside_37 M x2 x4) = (-9) → ¬ 0 = 0 → ¬ x3 = (-9) → (z_M_isDrain_37 M x3) = 0 → vp_in x3 16)
    (h6 : ¬ 4 ≤ x4 → (z_M_beside_37 M x2 x4) = (-9) → ¬ 0 = 0 → ¬ x3 = (-9) → (z_M_heightOf_37_48 M x3) ≤ (z_M_heightOf_37_48 M (z_M_beside_37 M x2 x4)) → WX mi_M_nextOf 4 Q 6 [some (.ref 37), some (.ref 48), some (.int x2), some (.int x3), some (.int (x4 + 1)), none, none] [] M)
    (h7 : ¬ 4 ≤ x4 → (z_M_beside_37 M x2 x4) = (-9) → ¬ 0 = 0 → ¬ x3 = (-9) → ¬ (z_M_heightOf_37_48 M x3) ≤ (z_M_heightOf_37_48 M (z_M_beside_37 M x2 x4)) → WX mi_M_nextOf 4 Q 6 [some (.ref 37), some (.ref 48), some (.int x2), some (.int (z_M_beside_37 M x2 x4)), some (.int (x4 + 1)), none, none] [] M)
    (h8 : ¬ 4 ≤ x4 → ¬ (z_M_beside_37 M x2 x4) = (-9) → ¬ (z_M_isLid_37 M (z_M_beside_37 M x2 x4)) = 0 → 0 = 0 → WX mi_M_nextOf 4 Q 6 [some (.ref 37), some (.ref 48), some (.int x2), some (.int x3), some (.int (x4 + 1)), none, none] [] M)
    (h9 : ¬ 4 ≤ x4 → ¬ (z_M_beside_37 M x2 x4) = (-9) → ¬ (z_M_isLid_37 M (z_M_beside_37 M x2 x4)) = 0 → ¬ 0 = 0 → x3 = (-9) → WX mi_M_nextOf 4 Q 6 [some (.ref 37), some (.ref 48), some (.int x2), some (.int (z_M_beside_37 M x2 x4)), some (.int (x4 + 1)), none, none] [] M)
    (b10 : ¬ 4 ≤ x4 → ¬ (z_M_beside_37 M x2 x4) = (-9) → ¬ (z_M_isLid_37 M (z_M_beside_37 M x2 x4)) = 0 → ¬ 0 = 0 → ¬ x3 = (-9) → (z_M_isDrain_37 M (z_M_beside_37 M x2 x4)) = 0 → vp_in (z_M_beside_37 M x2 x4) 16)
    (b11 : ¬ 4 ≤ x4 → ¬ (z_M_beside_37 M x2 x4) = (-9) → ¬ (z_M_isLid_37 M (z_M_beside_37 M x2 x4)) = 0 → ¬ 0 = 0 → ¬ x3 = (-9) → (z_M_isDrain_37 M x3) = 0 → vp_in x3 16)
    (h12 : ¬ 4 ≤ x4 → ¬ (z_M_beside_37 M x2 x4) = (-9) → ¬ (z_M_isLid_37 M (z_M_beside_37 M x2 x4)) = 0 → ¬ 0 = 0 → ¬ x3 = (-9) → (z_M_heightOf_37_48 M x3) ≤ (z_M_heightOf_37_48 M (z_M_beside_37 M x2 x4)) → WX mi_M_nextOf 4 Q 6 [some (.ref 37), some (.ref 48), some (.int x2), some (.int x3), some (.int (x4 + 1)), none, none] [] M)
    (h13 : ¬ 4 ≤ x4 → ¬ (z_M_beside_37 M x2 x4) = (-9) → ¬ (z_M_isLid_37 M (z_M_beside_37 M x2 x4)) = 0 → ¬ 0 = 0 → ¬ x3 = (-9) → ¬ (z_M_heightOf_37_48 M x3) ≤ (z_M_heightOf_37_48 M (z_M_beside_37 M x2 x4)) → WX mi_M_nextOf 4 Q 6 [some (.ref 37), some (.ref 48), some (.int x2), some (.int (z_M_beside_37 M x2 x4)), some (.int (x4 + 1)), none, none] [] M)
    (b14 : ¬ 4 ≤ x4 → ¬ (z_M_beside_37 M x2 x4) = (-9) → (z_M_isLid_37 M (z_M_beside_37 M x2 x4)) = 0 → (z_M_isDrain_37 M (z_M_beside_37 M x2 x4)) = 0 → vp_in (z_M_beside_37 M x2 x4) 16)
    (b15 : ¬ 4 ≤ x4 → ¬ (z_M_beside_37 M x2 x4) = (-9) → (z_M_isLid_37 M (z_M_beside_37 M x2 x4)) = 0 → (z_M_isDrain_37 M x2) = 0 → vp_in x2 16)
    (h16 : ¬ 4 ≤ x4 → ¬ (z_M_beside_37 M x2 x4) = (-9) → (z_M_isLid_37 M (z_M_beside_37 M x2 x4)) = 0 → (z_M_heightOf_37_48 M x2) ≤ (z_M_heightOf_37_48 M (z_M_beside_37 M x2 x4)) → 0 = 0 → WX mi_M_nextOf 4 Q 6 [some (.ref 37), some (.ref 48), some (.int x2), some (.int x3), some (.int (x4 + 1)), none, none] [] M)
    (h17 : ¬ 4 ≤ x4 → ¬ (z_M_beside_37 M x2 x4) = (-9) → (z_M_isLid_37 M (z_M_beside_37 M x2 x4)) = 0 → (z_M_heightOf_37_48 M x2) ≤ (z_M_heightOf_37_48 M (z_M_beside_37 M x2 x4)) → ¬ 0 = 0 → x3 = (-9) → WX mi_M_nextOf 4 Q 6 [some (.ref 37), some (.ref 48), some (.int x2), some (.int (z_M_beside_37 M x2 x4)), some (.int (x4 + 1)), none, none] [] M)
    (b18 : ¬ 4 ≤ x4 → ¬ (z_M_beside_37 M x2 x4) = (-9) → (z_M_isLid_37 M (z_M_beside_37 M x2 x4)) = 0 → (z_M_heightOf_37_48 M x2) ≤ (z_M_heightOf_37_48 M (z_M_beside_37 M x2 x4)) → ¬ 0 = 0 → ¬ x3 = (-9) → (z_M_isDrain_37 M (z_M_beside_37 M x2 x4)) = 0 → vp_in (z_M_beside_37 M x2 x4) 16)
    (b19 : ¬ 4 ≤ x4 → ¬ (z_M_beside_37 M x2 x4) = (-9) → (z_M_isLid_37 M (z_M_beside_37 M x2 x4)) = 0 → (z_M_heightOf_37_48 M x2) ≤ (z_M_heightOf_37_48 M (z_M_beside_37 M x2 x4)) → ¬ 0 = 0 → ¬ x3 = (-9) → (z_M_isDrain_37 M x3) = 0 → vp_in x3 16)
    (h20 : ¬ 4 ≤ x4 → ¬ (z_M_beside_37 M x2 x4) = (-9) → (z_M_isLid_37 M (z_M_beside_37 M x2 x4)) = 0 → (z_M_heightOf_37_48 M x2) ≤ (z_M_heightOf_37_48 M (z_M_beside_37 M x2 x4)) → ¬ 0 = 0 → ¬ x3 = (-9) → (z_M_heightOf_37_48 M x3) ≤ (z_M_heightOf_37_48 M (z_M_beside_37 M x2 x4)) → WX mi_M_nextOf 4 Q 6 [some (.ref 37), some (.ref 48), some (.int x2), some (.int x3), some (.int (x4 + 1)), none, none] [] M)
    (h21 : ¬ 4 ≤ x4 → ¬ (z_M_beside_37 M x2 x4) = (-9) → (z_M_isLid_37 M (z_M_beside_37 M x2 x4)) = 0 → (z_M_heightOf_37_48 M x2) ≤ (z_M_heightOf_37_48 M (z_M_beside_37 M x2 x4)) → ¬ 0 = 0 → ¬ x3 = (-9) → ¬ (z_M_heightOf_37_48 M x3) ≤ (z_M_heightOf_37_48 M (z_M_beside_37 M x2 x4)) → WX mi_M_nextOf 4 Q 6 [some (.ref 37), some (.ref 48), some (.int x2), some (.int (z_M_beside_37 M x2 x4)), some (.int (x4 + 1)), none, none] [] M)
    (h22 : ¬ 4 ≤ x4 → ¬ (z_M_beside_37 M x2 x4) = (-9) → (z_M_isLid_37 M (z_M_beside_37 M x2 x4)) = 0 → ¬ (z_M_heightOf_37_48 M x2) ≤ (z_M_heightOf_37_48 M (z_M_beside_37 M x2 x4)) → 1 = 0 → WX mi_M_nextOf 4 Q 6 [some (.ref 37), some (.ref 48), some (.int x2), some (.int x3), some (.int (x4 + 1)), none, none] [] M)
    (h23 : ¬ 4 ≤ x4 → ¬ (z_M_beside_37 M x2 x4) = (-9) → (z_M_isLid_37 M (z_M_beside_37 M x2 x4)) = 0 → ¬ (z_M_heightOf_37_48 M x2) ≤ (z_M_heightOf_37_48 M (z_M_beside_37 M x2 x4)) → ¬ 1 = 0 → x3 = (-9) → WX mi_M_nextOf 4 Q 6 [some (.ref 37), some (.ref 48), some (.int x2), some (.int (z_M_beside_37 M x2 x4)), some (.int (x4 + 1)), none, none] [] M)
    (b24 : ¬ 4 ≤ x4 → ¬ (z_M_beside_37 M x2 x4) = (-9) → (z_M_isLid_37 M (z_M_beside_37 M x2 x4)) = 0 → ¬ (z_M_heightOf_37_48 M x2) ≤ (z_M_heightOf_37_48 M (z_M_beside_37 M x2 x4)) → ¬ 1 = 0 → ¬ x3 = (-9) → (z_M_isDrain_37 M (z_M_beside_37 M x2 x4)) = 0 → vp_in (z_M_beside_37 M x2 x4) 16)
    (b25 : ¬ 4 ≤ x4 → ¬ (z_M_beside_37 M x2 x4) = (-9) → (z_M_isLid_37 M (z_M_beside_37 M x2 x4)) = 0 → ¬ (z_M_heightOf_37_48 M x2) ≤ (z_M_heightOf_37_48 M (z_M_beside_37 M x2 x4)) → ¬ 1 = 0 → ¬ x3 = (-9) → (z_M_isDrain_37 M x3) = 0 → vp_in x3 16)
    (h26 : ¬ 4 ≤ x4 → ¬ (z_M_beside_37 M x2 x4) = (-9) → (z_M_isLid_37 M (z_M_beside_37 M x2 x4)) = 0 → ¬ (z_M_heightOf_37_48 M x2) ≤ (z_M_heightOf_37_48 M (z_M_beside_37 M x2 x4)) → ¬ 1 = 0 → ¬ x3 = (-9) → (z_M_heightOf_37_48 M x3) ≤ (z_M_heightOf_37_48 M (z_M_beside_37 M x2 x4)) → WX mi_M_nextOf 4 Q 6 [some (.ref 37), some (.ref 48), some (.int x2), some (.int x3), some (.int (x4 + 1)), none, none] [] M)
    (h27 : ¬ 4 ≤ x4 → ¬ (z_M_beside_37 M x2 x4) = (-9) → (z_M_isLid_37 M (z_M_beside_37 M x2 x4)) = 0 → ¬ (z_M_heightOf_37_48 M x2) ≤ (z_M_heightOf_37_48 M (z_M_beside_37 M x2 x4)) → ¬ 1 = 0 → ¬ x3 = (-9) → ¬ (z_M_heightOf_37_48 M x3) ≤ (z_M_heightOf_37_48 M (z_M_beside_37 M x2 x4)) → WX mi_M_nextOf 4 Q 6 [some (.ref 37), some (.ref 48), some (.int x2), some (.int (z_M_beside_37 M x2 x4)), some (.int (x4 + 1)), none, none] [] M) :
    WX mi_M_nextOf 4 Q 6 [some (.ref 37), some (.ref 48), some (.int x2), some (.int x3), some (.int x4), none, none] [] M := by
  refine WX.run (pc' := 9) (L' := [some (.ref 37), some (.ref 48), some (.int x2), some (.int x3), some (.int x4), none, none]) (st' := [.int 4, .int x4]) (M' := M) (P := True) 2 rfl trivial ?_
  refine WX.icmp_ge (off := 91) (tgt := 100) rfl rfl (fun c1 => ?_) (fun c1 => ?_)
  · refine WX.run (pc' := 101) (L' := [some (.ref 37), some (.ref 48), some (.int x2), some (.int x3), some (.int x4), none, none]) (st' := [.int x3]) (M' := M) (P := True) 1 rfl trivial ?_
    exact WX.iret rfl rfl (h1 c1)
  · refine WX.run (pc' := 16) (L' := [some (.ref 37), some (.ref 48), some (.int x2), some (.int x3), some (.int x4), none, none]) (st' := [.int x4, .int x2, .ref 37]) (M' := M) (P := True) 3 rfl trivial ?_
    refine WX.callV (ca := mi_M_beside) (n := 2) (d' := 3) (st := []) (As := [.int x2, .int x4]) (q := 37) rfl lk_7_169 ck_M_beside cv_M_beside rfl (by decide) rfl (by decide) ⟨by decide, rfl, by decide⟩ (by intro w hw; simp only [List.mem_cons, List.not_mem_nil, or_false] at hw; rcases hw with rfl | rfl <;> rfl) (by decide) ?_
    refine wx_M_beside_37 M x2 x4 ?_
    show WX mi_M_nextOf 4 Q 19 [some (.ref 37), some (.ref 48), some (.int x2), some (.int x3), some (.int x4), none, none] [.int (z_M_beside_37 M x2 x4)] M
    refine WX.run (pc' := 25) (L' := [some (.ref 37), some (.ref 48), some (.int x2), some (.int x3), some (.int x4), some (.int (z_M_beside_37 M x2 x4)), none]) (st' := [.int (-9), .int (z_M_beside_37 M x2 x4)]) (M' := M) (P := True) 3 rfl trivial ?_
    refine WX.icmp_eq (off := 32) (tgt := 57) rfl rfl (fun c2 => ?_) (fun c2 => ?_)
    · refine WX.run (pc' := 62) (L' := [some (.ref 37), some (.ref 48), some (.int x2), some (.int x3), some (.int x4), some (.int (z_M_beside_37 M x2 x4)), some (.int 0)]) (st' := [.int 0]) (M' := M) (P := True) 3 rfl trivial ?_
      refine WX.if_eq (off := 30) (tgt := 92) rfl rfl (fun c3 => ?_) (fun c3 => ?_)
      · refine WX.run (pc' := 6) (L' := [some (.ref 37), some (.ref 48), some (.int x2), some (.int x3), some (.int (x4 + 1)), some (.int (z_M_beside_37 M x2 x4)), some (.int 0)]) (st' := []) (M' := M) (P := True) 4 rfl trivial ?_
        refine WX.forget2 (L' := [some (.ref 37), some (.ref 48), some (.int x2), some (.int x3), some (.int (x4 + 1)), none, none]) ?_ ⟨Or.inr rfl, Or.inr rfl, Or.inr rfl, Or.inr rfl, Or.inr rfl, Or.inl rfl, Or.inl rfl, trivial⟩
        exact (h2 c1 c2 c3)
      · refine WX.run (pc' := 68) (L' := [some (.ref 37), some (.ref 48), some (.int x2), some (.int x3), some (.int x4), some (.int (z_M_beside_37 M x2 x4)), some (.int 0)]) (st' := [.int (-9), .int x3]) (M' := M) (P := True) 2 rfl trivial ?_
        refine WX.icmp_eq (off := 19) (tgt := 87) rfl rfl (fun c4 => ?_) (fun c4 => ?_)
        · refine WX.run (pc' := 6) (L' := [some (.ref 37), some (.ref 48), some (.int x2), some (.int (z_M_beside_37 M x2 x4)), some (.int (x4 + 1)), some (.int (z_M_beside_37 M x2 x4)), some (.int 0)]) (st' := []) (M' := M) (P := True) 5 rfl trivial ?_
          refine WX.forget2 (L' := [some (.ref 37), some (.ref 48), some (.int x2), some (.int (z_M_beside_37 M x2 x4)), some (.int (x4 + 1)), none, none]) ?_ ⟨Or.inr rfl, Or.inr rfl, Or.inr rfl, Or.inr rfl, Or.inr rfl, Or.inl rfl, Or.inl rfl, trivial⟩
          exact (h3 c1 c2 c3 c4)
        · refine WX.run (pc' := 75) (L' := [some (.ref 37), some (.ref 48), some (.int x2), some (.int x3), some (.int x4), some (.int (z_M_beside_37 M x2 x4)), some (.int 0)]) (st' := [.int (z_M_beside_37 M x2 x4), .ref 48, .ref 37]) (M' := M) (P := True) 3 rfl trivial ?_
          refine WX.callV (ca := mi_M_heightOf) (n := 2) (d' := 2) (st := []) (As := [.ref 48, .int (z_M_beside_37 M x2 x4)]) (q := 37) rfl lk_7_178 ck_M_heightOf cv_M_heightOf rfl (by decide) rfl (by decide) ⟨by decide, rfl, by decide⟩ (by intro w hw; simp only [List.mem_cons, List.not_mem_nil, or_false] at hw; rcases hw with rfl | rfl <;> rfl) (by decide) ?_
          refine wx_M_heightOf_37_48 M (z_M_beside_37 M x2 x4) (b4 c1 c2 c3 c4) ?_
          show WX mi_M_nextOf 4 Q 78 [some (.ref 37), some (.ref 48), some (.int x2), some (.int x3), some (.int x4), some (.int (z_M_beside_37 M x2 x4)), some (.int 0)] [.int (z_M_heightOf_37_48 M (z_M_beside_37 M x2 x4))] M
          refine WX.run (pc' := 81) (L' := [some (.ref 37), some (.ref 48), some (.int x2), some (.int x3), some (.int x4), some (.int (z_M_beside_37 M x2 x4)), some (.int 0)]) (st' := [.int x3, .ref 48, .ref 37, .int (z_M_heightOf_37_48 M (z_M_beside_37 M x2 x4))]) (M' := M) (P := True) 3 rfl trivial ?_
          refine WX.callV (ca := mi_M_heightOf) (n := 2) (d' := 2) (st := [.int (z_M_heightOf_37_48 M (z_M_beside_37 M x2 x4))]) (As := [.ref 48, .int x3]) (q := 37) rfl lk_7_178 ck_M_heightOf cv_M_heightOf rfl (by decide) rfl (by decide) ⟨by decide, rfl, by decide⟩ (by intro w hw; simp only [List.mem_cons, List.not_mem_nil, or_false] at hw; rcases hw with rfl | rfl <;> rfl) (by decide) ?_
          refine wx_M_heightOf_37_48 M x3 (b5 c1 c2 c3 c4) ?_
          show WX mi_M_nextOf 4 Q 84 [some (.ref 37), some (.ref 48), some (.int x2), some (.int x3), some (.int x4), some (.int (z_M_beside_37 M x2 x4)), some (.int 0)] [.int (z_M_heightOf_37_48 M x3), .int (z_M_heightOf_37_48 M (z_M_beside_37 M x2 x4))] M
          refine WX.icmp_ge (off := 8) (tgt := 92) rfl rfl (fun c5 => ?_) (fun c5 => ?_)
          · refine WX.run (pc' := 6) (L' := [some (.ref 37), some (.ref 48), some (.int x2), some (.int x3), some (.int (x4 + 1)), some (.int (z_M_beside_37 M x2 x4)), some (.int 0)]) (st' := []) (M' := M) (P := True) 4 rfl trivial ?_
            refine WX.forget2 (L' := [some (.ref 37), some (.ref 48), some (.int x2), some (.int x3), some (.int (x4 + 1)), none, none]) ?_ ⟨Or.inr rfl, Or.inr rfl, Or.inr rfl, Or.inr rfl, Or.inr rfl, Or.inl rfl, Or.inl rfl, trivial⟩
            exact (h6 c1 c2 c3 c4 c5)
          · refine WX.run (pc' := 6) (L' := [some (.ref 37), some (.ref 48), some (.int x2), some (.int (z_M_beside_37 M x2 x4)), some (.int (x4 + 1)), some (.int (z_M_beside_37 M x2 x4)), some (.int 0)]) (st' := []) (M' := M) (P := True) 5 rfl trivial ?_
            refine WX.forget2 (L' := [some (.ref 37), some (.ref 48), some (.int x2), some (.int (z_M_beside_37 M x2 x4)), some (.int (x4 + 1)), none, none]) ?_ ⟨Or.inr rfl, Or.inr rfl, Or.inr rfl, Or.inr rfl, Or.inr rfl, Or.inl rfl, Or.inl rfl, trivial⟩
            exact (h7 c1 c2 c3 c4 c5)
    · refine WX.run (pc' := 31) (L' := [some (.ref 37), some (.ref 48), some (.int x2), some (.int x3), some (.int x4), some (.int (z_M_beside_37 M x2 x4)), none]) (st' := [.int (z_M_beside_37 M x2 x4), .ref 37]) (M' := M) (P := True) 2 rfl trivial ?_
      refine WX.callV (ca := mi_M_isLid) (n := 1) (d' := 1) (st := []) (As := [.int (z_M_beside_37 M x2 x4)]) (q := 37) rfl lk_7_134 ck_M_isLid cv_M_isLid rfl (by decide) rfl (by decide) ⟨by decide, rfl, by decide⟩ (by intro w hw; simp only [List.mem_cons, List.not_mem_nil, or_false] at hw; rcases hw with rfl <;> rfl) (by decide) ?_
      refine wx_M_isLid_37 M (z_M_beside_37 M x2 x4) ?_
      show WX mi_M_nextOf 4 Q 34 [some (.ref 37), some (.ref 48), some (.int x2), some (.int x3), some (.int x4), some (.int (z_M_beside_37 M x2 x4)), none] [.int (z_M_isLid_37 M (z_M_beside_37 M x2 x4))] M
      refine WX.if_ne (off := 23) (tgt := 57) rfl rfl (fun c6 => ?_) (fun c6 => ?_)
      · refine WX.run (pc' := 62) (L' := [some (.ref 37), some (.ref 48), some (.int x2), some (.int x3), some (.int x4), some (.int (z_M_beside_37 M x2 x4)), some (.int 0)]) (st' := [.int 0]) (M' := M) (P := True) 3 rfl trivial ?_
        refine WX.if_eq (off := 30) (tgt := 92) rfl rfl (fun c7 => ?_) (fun c7 => ?_)
        · refine WX.run (pc' := 6) (L' := [some (.ref 37), some (.ref 48), some (.int x2), some (.int x3), some (.int (x4 + 1)), some (.int (z_M_beside_37 M x2 x4)), some (.int 0)]) (st' := []) (M' := M) (P := True) 4 rfl trivial ?_
          refine WX.forget2 (L' := [some (.ref 37), some (.ref 48), some (.int x2), some (.int x3), some (.int (x4 + 1)), none, none]) ?_ ⟨Or.inr rfl, Or.inr rfl, Or.inr rfl, Or.inr rfl, Or.inr rfl, Or.inl rfl, Or.inl rfl, trivial⟩
          exact (h8 c1 c2 c6 c7)
        · refine WX.run (pc' := 68) (L' := [some (.ref 37), some (.ref 48), some (.int x2), some (.int x3), some (.int x4), some (.int (z_M_beside_37 M x2 x4)), some (.int 0)]) (st' := [.int (-9), .int x3]) (M' := M) (P := True) 2 rfl trivial ?_
          refine WX.icmp_eq (off := 19) (tgt := 87) rfl rfl (fun c8 => ?_) (fun c8 => ?_)
          · refine WX.run (pc' := 6) (L' := [some (.ref 37), some (.ref 48), some (.int x2), some (.int (z_M_beside_37 M x2 x4)), some (.int (x4 + 1)), some (.int (z_M_beside_37 M x2 x4)), some (.int 0)]) (st' := []) (M' := M) (P := True) 5 rfl trivial ?_
            refine WX.forget2 (L' := [some (.ref 37), some (.ref 48), some (.int x2), some (.int (z_M_beside_37 M x2 x4)), some (.int (x4 + 1)), none, none]) ?_ ⟨Or.inr rfl, Or.inr rfl, Or.inr rfl, Or.inr rfl, Or.inr rfl, Or.inl rfl, Or.inl rfl, trivial⟩
            exact (h9 c1 c2 c6 c7 c8)
          · refine WX.run (pc' := 75) (L' := [some (.ref 37), some (.ref 48), some (.int x2), some (.int x3), some (.int x4), some (.int (z_M_beside_37 M x2 x4)), some (.int 0)]) (st' := [.int (z_M_beside_37 M x2 x4), .ref 48, .ref 37]) (M' := M) (P := True) 3 rfl trivial ?_
            refine WX.callV (ca := mi_M_heightOf) (n := 2) (d' := 2) (st := []) (As := [.ref 48, .int (z_M_beside_37 M x2 x4)]) (q := 37) rfl lk_7_178 ck_M_heightOf cv_M_heightOf rfl (by decide) rfl (by decide) ⟨by decide, rfl, by decide⟩ (by intro w hw; simp only [List.mem_cons, List.not_mem_nil, or_false] at hw; rcases hw with rfl | rfl <;> rfl) (by decide) ?_
            refine wx_M_heightOf_37_48 M (z_M_beside_37 M x2 x4) (b10 c1 c2 c6 c7 c8) ?_
            show WX mi_M_nextOf 4 Q 78 [some (.ref 37), some (.ref 48), some (.int x2), some (.int x3), some (.int x4), some (.int (z_M_beside_37 M x2 x4)), some (.int 0)] [.int (z_M_heightOf_37_48 M (z_M_beside_37 M x2 x4))] M
            refine WX.run (pc' := 81) (L' := [some (.ref 37), some (.ref 48), some (.int x2), some (.int x3), some (.int x4), some (.int (z_M_beside_37 M x2 x4)), some (.int 0)]) (st' := [.int x3, .ref 48, .ref 37, .int (z_M_heightOf_37_48 M (z_M_beside_37 M x2 x4))]) (M' := M) (P := True) 3 rfl trivial ?_
            refine WX.callV (ca := mi_M_heightOf) (n := 2) (d' := 2) (st := [.int (z_M_heightOf_37_48 M (z_M_beside_37 M x2 x4))]) (As := [.ref 48, .int x3]) (q := 37) rfl lk_7_178 ck_M_heightOf cv_M_heightOf rfl (by decide) rfl (by decide) ⟨by decide, rfl, by decide⟩ (by intro w hw; simp only [List.mem_cons, List.not_mem_nil, or_false] at hw; rcases hw with rfl | rfl <;> rfl) (by decide) ?_
            refine wx_M_heightOf_37_48 M x3 (b11 c1 c2 c6 c7 c8) ?_
            show WX mi_M_nextOf 4 Q 84 [some (.ref 37), some (.ref 48), some (.int x2), some (.int x3), some (.int x4), some (.int (z_M_beside_37 M x2 x4)), some (.int 0)] [.int (z_M_heightOf_37_48 M x3), .int (z_M_heightOf_37_48 M (z_M_beside_37 M x2 x4))] M
            refine WX.icmp_ge (off := 8) (tgt := 92) rfl rfl (fun c9 => ?_) (fun c9 => ?_)
            · refine WX.run (pc' := 6) (L' := [some (.ref 37), some (.ref 48), some (.int x2), some (.int x3), some (.int (x4 + 1)), some (.int (z_M_beside_37 M x2 x4)), some (.int 0)]) (st' := []) (M' := M) (P := True) 4 rfl trivial ?_
              refine WX.forget2 (L' := [some (.ref 37), some (.ref 48), some (.int x2), some (.int x3), some (.int (x4 + 1)), none, none]) ?_ ⟨Or.inr rfl, Or.inr rfl, Or.inr rfl, Or.inr rfl, Or.inr rfl, Or.inl rfl, Or.inl rfl, trivial⟩
              exact (h12 c1 c2 c6 c7 c8 c9)
            · refine WX.run (pc' := 6) (L' := [some (.ref 37), some (.ref 48), some (.int x2), some (.int (z_M_beside_37 M x2 x4)), some (.int (x4 + 1)), some (.int (z_M_beside_37 M x2 x4)), some (.int 0)]) (st' := []) (M' := M) (P := True) 5 rfl trivial ?_
              refine WX.forget2 (L' := [some (.ref 37), some (.ref 48), some (.int x2), some (.int (z_M_beside_37 M x2 x4)), some (.int (x4 + 1)), none, none]) ?_ ⟨Or.inr rfl, Or.inr rfl, Or.inr rfl, Or.inr rfl, Or.inr rfl, Or.inl rfl, Or.inl rfl, trivial⟩
              exact (h13 c1 c2 c6 c7 c8 c9)
      · refine WX.run (pc' := 41) (L' := [some (.ref 37), some (.ref 48), some (.int x2), some (.int x3), some (.int x4), some (.int (z_M_beside_37 M x2 x4)), none]) (st' := [.int (z_M_beside_37 M x2 x4), .ref 48, .ref 37]) (M' := M) (P := True) 3 rfl trivial ?_
        refine WX.callV (ca := mi_M_heightOf) (n := 2) (d' := 2) (st := []) (As := [.ref 48, .int (z_M_beside_37 M x2 x4)]) (q := 37) rfl lk_7_178 ck_M_heightOf cv_M_heightOf rfl (by decide) rfl (by decide) ⟨by decide, rfl, by decide⟩ (by intro w hw; simp only [List.mem_cons, List.not_mem_nil, or_false] at hw; rcases hw with rfl | rfl <;> rfl) (by decide) ?_
        refine wx_M_heightOf_37_48 M (z_M_beside_37 M x2 x4) (b14 c1 c2 c6) ?_
        show WX mi_M_nextOf 4 Q 44 [some (.ref 37), some (.ref 48), some (.int x2), some (.int x3), some (.int x4), some (.int (z_M_beside_37 M x2 x4)), none] [.int (z_M_heightOf_37_48 M (z_M_beside_37 M x2 x4))] M
        refine WX.run (pc' := 47) (L' := [some (.ref 37), some (.ref 48), some (.int x2), some (.int x3), some (.int x4), some (.int (z_M_beside_37 M x2 x4)), none]) (st' := [.int x2, .ref 48, .ref 37, .int (z_M_heightOf_37_48 M (z_M_beside_37 M x2 x4))]) (M' := M) (P := True) 3 rfl trivial ?_
        refine WX.callV (ca := mi_M_heightOf) (n := 2) (d' := 2) (st := [.int (z_M_heightOf_37_48 M (z_M_beside_37 M x2 x4))]) (As := [.ref 48, .int x2]) (q := 37) rfl lk_7_178 ck_M_heightOf cv_M_heightOf rfl (by decide) rfl (by decide) ⟨by decide, rfl, by decide⟩ (by intro w hw; simp only [List.mem_cons, List.not_mem_nil, or_false] at hw; rcases hw with rfl | rfl <;> rfl) (by decide) ?_
        refine wx_M_heightOf_37_48 M x2 (b15 c1 c2 c6) ?_
        show WX mi_M_nextOf 4 Q 50 [some (.ref 37), some (.ref 48), some (.int x2), some (.int x3), some (.int x4), some (.int (z_M_beside_37 M x2 x4)), none] [.int (z_M_heightOf_37_48 M x2), .int (z_M_heightOf_37_48 M (z_M_beside_37 M x2 x4))] M
        refine WX.icmp_ge (off := 7) (tgt := 57) rfl rfl (fun c10 => ?_) (fun c10 => ?_)
        · refine WX.run (pc' := 62) (L' := [some (.ref 37), some (.ref 48), some (.int x2), some (.int x3), some (.int x4), some (.int (z_M_beside_37 M x2 x4)), some (.int 0)]) (st' := [.int 0]) (M' := M) (P := True) 3 rfl trivial ?_
          refine WX.if_eq (off := 30) (tgt := 92) rfl rfl (fun c11 => ?_) (fun c11 => ?_)
          · refine WX.run (pc' := 6) (L' := [some (.ref 37), some (.ref 48), some (.int x2), some (.int x3), some (.int (x4 + 1)), some (.int (z_M_beside_37 M x2 x4)), some (.int 0)]) (st' := []) (M' := M) (P := True) 4 rfl trivial ?_
            refine WX.forget2 (L' := [some (.ref 37), some (.ref 48), some (.int x2), some (.int x3), some (.int (x4 + 1)), none, none]) ?_ ⟨Or.inr rfl, Or.inr rfl, Or.inr rfl, Or.inr rfl, Or.inr rfl, Or.inl rfl, Or.inl rfl, trivial⟩
            exact (h16 c1 c2 c6 c10 c11)
          · refine WX.run (pc' := 68) (L' := [some (.ref 37), some (.ref 48), some (.int x2), some (.int x3), some (.int x4), some (.int (z_M_beside_37 M x2 x4)), some (.int 0)]) (st' := [.int (-9), .int x3]) (M' := M) (P := True) 2 rfl trivial ?_
            refine WX.icmp_eq (off := 19) (tgt := 87) rfl rfl (fun c12 => ?_) (fun c12 => ?_)
            · refine WX.run (pc' := 6) (L' := [some (.ref 37), some (.ref 48), some (.int x2), some (.int (z_M_beside_37 M x2 x4)), some (.int (x4 + 1)), some (.int (z_M_beside_37 M x2 x4)), some (.int 0)]) (st' := []) (M' := M) (P := True) 5 rfl trivial ?_
              refine WX.forget2 (L' := [some (.ref 37), some (.ref 48), some (.int x2), some (.int (z_M_beside_37 M x2 x4)), some (.int (x4 + 1)), none, none]) ?_ ⟨Or.inr rfl, Or.inr rfl, Or.inr rfl, Or.inr rfl, Or.inr rfl, Or.inl rfl, Or.inl rfl, trivial⟩
              exact (h17 c1 c2 c6 c10 c11 c12)
            · refine WX.run (pc' := 75) (L' := [some (.ref 37), some (.ref 48), some (.int x2), some (.int x3), some (.int x4), some (.int (z_M_beside_37 M x2 x4)), some (.int 0)]) (st' := [.int (z_M_beside_37 M x2 x4), .ref 48, .ref 37]) (M' := M) (P := True) 3 rfl trivial ?_
              refine WX.callV (ca := mi_M_heightOf) (n := 2) (d' := 2) (st := []) (As := [.ref 48, .int (z_M_beside_37 M x2 x4)]) (q := 37) rfl lk_7_178 ck_M_heightOf cv_M_heightOf rfl (by decide) rfl (by decide) ⟨by decide, rfl, by decide⟩ (by intro w hw; simp only [List.mem_cons, List.not_mem_nil, or_false] at hw; rcases hw with rfl | rfl <;> rfl) (by decide) ?_
              refine wx_M_heightOf_37_48 M (z_M_beside_37 M x2 x4) (b18 c1 c2 c6 c10 c11 c12) ?_
              show WX mi_M_nextOf 4 Q 78 [some (.ref 37), some (.ref 48), some (.int x2), some (.int x3), some (.int x4), some (.int (z_M_beside_37 M x2 x4)), some (.int 0)] [.int (z_M_heightOf_37_48 M (z_M_beside_37 M x2 x4))] M
              refine WX.run (pc' := 81) (L' := [some (.ref 37), some (.ref 48), some (.int x2), some (.int x3), some (.int x4), some (.int (z_M_beside_37 M x2 x4)), some (.int 0)]) (st' := [.int x3, .ref 48, .ref 37, .int (z_M_heightOf_37_48 M (z_M_beside_37 M x2 x4))]) (M' := M) (P := True) 3 rfl trivial ?_
              refine WX.callV (ca := mi_M_heightOf) (n := 2) (d' := 2) (st := [.int (z_M_heightOf_37_48 M (z_M_beside_37 M x2 x4))]) (As := [.ref 48, .int x3]) (q := 37) rfl lk_7_178 ck_M_heightOf cv_M_heightOf rfl (by decide) rfl (by decide) ⟨by decide, rfl, by decide⟩ (by intro w hw; simp only [List.mem_cons, List.not_mem_nil, or_false] at hw; rcases hw with rfl | rfl <;> rfl) (by decide) ?_
              refine wx_M_heightOf_37_48 M x3 (b19 c1 c2 c6 c10 c11 c12) ?_
              show WX mi_M_nextOf 4 Q 84 [some (.ref 37), some (.ref 48), some (.int x2), some (.int x3), some (.int x4), some (.int (z_M_beside_37 M x2 x4)), some (.int 0)] [.int (z_M_heightOf_37_48 M x3), .int (z_M_heightOf_37_48 M (z_M_beside_37 M x2 x4))] M
              refine WX.icmp_ge (off := 8) (tgt := 92) rfl rfl (fun c13 => ?_) (fun c13 => ?_)
              · refine WX.run (pc' := 6) (L' := [some (.ref 37), some (.ref 48), some (.int x2), some (.int x3), some (.int (x4 + 1)), some (.int (z_M_beside_37 M x2 x4)), some (.int 0)]) (st' := []) (M' := M) (P := True) 4 rfl trivial ?_
                refine WX.forget2 (L' := [some (.ref 37), some (.ref 48), some (.int x2), some (.int x3), some (.int (x4 + 1)), none, none]) ?_ ⟨Or.inr rfl, Or.inr rfl, Or.inr rfl, Or.inr rfl, Or.inr rfl, Or.inl rfl, Or.inl rfl, trivial⟩
                exact (h20 c1 c2 c6 c10 c11 c12 c13)
              · refine WX.run (pc' := 6) (L' := [some (.ref 37), some (.ref 48), some (.int x2), some (.int (z_M_beside_37 M x2 x4)), some (.int (x4 + 1)), some (.int (z_M_beside_37 M x2 x4)), some (.int 0)]) (st' := []) (M' := M) (P := True) 5 rfl trivial ?_
                refine WX.forget2 (L' := [some (.ref 37), some (.ref 48), some (.int x2), some (.int (z_M_beside_37 M x2 x4)), some (.int (x4 + 1)), none, none]) ?_ ⟨Or.inr rfl, Or.inr rfl, Or.inr rfl, Or.inr rfl, Or.inr rfl, Or.inl rfl, Or.inl rfl, trivial⟩
                exact (h21 c1 c2 c6 c10 c11 c12 c13)
        · refine WX.run (pc' := 62) (L' := [some (.ref 37), some (.ref 48), some (.int x2), some (.int x3), some (.int x4), some (.int (z_M_beside_37 M x2 x4)), some (.int 1)]) (st' := [.int 1]) (M' := M) (P := True) 4 rfl trivial ?_
          refine WX.if_eq (off := 30) (tgt := 92) rfl rfl (fun c14 => ?_) (fun c14 => ?_)
          · refine WX.run (pc' := 6) (L' := [some (.ref 37), some (.ref 48), some (.int x2), some (.int x3), some (.int (x4 + 1)), some (.int (z_M_beside_37 M x2 x4)), some (.int 1)]) (st' := []) (M' := M) (P := True) 4 rfl trivial ?_
            refine WX.forget2 (L' := [some (.ref 37), some (.ref 48), some (.int x2), some (.int x3), some (.int (x4 + 1)), none, none]) ?_ ⟨Or.inr rfl, Or.inr rfl, Or.inr rfl, Or.inr rfl, Or.inr rfl, Or.inl rfl, Or.inl rfl, trivial⟩
            exact (h22 c1 c2 c6 c10 c14)
          · refine WX.run (pc' := 68) (L' := [some (.ref 37), some (.ref 48), some (.int x2), some (.int x3), some (.int x4), some (.int (z_M_beside_37 M x2 x4)), some (.int 1)]) (st' := [.int (-9), .int x3]) (M' := M) (P := True) 2 rfl trivial ?_
            refine WX.icmp_eq (off := 19) (tgt := 87) rfl rfl (fun c15 => ?_) (fun c15 => ?_)
            · refine WX.run (pc' := 6) (L' := [some (.ref 37), some (.ref 48), some (.int x2), some (.int (z_M_beside_37 M x2 x4)), some (.int (x4 + 1)), some (.int (z_M_beside_37 M x2 x4)), some (.int 1)]) (st' := []) (M' := M) (P := True) 5 rfl trivial ?_
              refine WX.forget2 (L' := [some (.ref 37), some (.ref 48), some (.int x2), some (.int (z_M_beside_37 M x2 x4)), some (.int (x4 + 1)), none, none]) ?_ ⟨Or.inr rfl, Or.inr rfl, Or.inr rfl, Or.inr rfl, Or.inr rfl, Or.inl rfl, Or.inl rfl, trivial⟩
              exact (h23 c1 c2 c6 c10 c14 c15)
            · refine WX.run (pc' := 75) (L' := [some (.ref 37), some (.ref 48), some (.int x2), some (.int x3), some (.int x4), some (.int (z_M_beside_37 M x2 x4)), some (.int 1)]) (st' := [.int (z_M_beside_37 M x2 x4), .ref 48, .ref 37]) (M' := M) (P := True) 3 rfl trivial ?_
              refine WX.callV (ca := mi_M_heightOf) (n := 2) (d' := 2) (st := []) (As := [.ref 48, .int (z_M_beside_37 M x2 x4)]) (q := 37) rfl lk_7_178 ck_M_heightOf cv_M_heightOf rfl (by decide) rfl (by decide) ⟨by decide, rfl, by decide⟩ (by intro w hw; simp only [List.mem_cons, List.not_mem_nil, or_false] at hw; rcases hw with rfl | rfl <;> rfl) (by decide) ?_
              refine wx_M_heightOf_37_48 M (z_M_beside_37 M x2 x4) (b24 c1 c2 c6 c10 c14 c15) ?_
              show WX mi_M_nextOf 4 Q 78 [some (.ref 37), some (.ref 48), some (.int x2), some (.int x3), some (.int x4), some (.int (z_M_beside_37 M x2 x4)), some (.int 1)] [.int (z_M_heightOf_37_48 M (z_M_beside_37 M x2 x4))] M
              refine WX.run (pc' := 81) (L' := [some (.ref 37), some (.ref 48), some (.int x2), some (.int x3), some (.int x4), some (.int (z_M_beside_37 M x2 x4)), some (.int 1)]) (st' := [.int x3, .ref 48, .ref 37, .int (z_M_heightOf_37_48 M (z_M_beside_37 M x2 x4))]) (M' := M) (P := True) 3 rfl trivial ?_
              refine WX.callV (ca := mi_M_heightOf) (n := 2) (d' := 2) (st := [.int (z_M_heightOf_37_48 M (z_M_beside_37 M x2 x4))]) (As := [.ref 48, .int x3]) (q := 37) rfl lk_7_178 ck_M_heightOf cv_M_heightOf rfl (by decide) rfl (by decide) ⟨by decide, rfl, by decide⟩ (by intro w hw; simp only [List.mem_cons, List.not_mem_nil, or_false] at hw; rcases hw with rfl | rfl <;> rfl) (by decide) ?_
              refine wx_M_heightOf_37_48 M x3 (b25 c1 c2 c6 c10 c14 c15) ?_
              show WX mi_M_nextOf 4 Q 84 [some (.ref 37), some (.ref 48), some (.int x2), some (.int x3), some (.int x4), some (.int (z_M_beside_37 M x2 x4)), some (.int 1)] [.int (z_M_heightOf_37_48 M x3), .int (z_M_heightOf_37_48 M (z_M_beside_37 M x2 x4))] M
              refine WX.icmp_ge (off := 8) (tgt := 92) rfl rfl (fun c16 => ?_) (fun c16 => ?_)
              · refine WX.run (pc' := 6) (L' := [some (.ref 37), some (.ref 48), some (.int x2), some (.int x3), some (.int (x4 + 1)), some (.int (z_M_beside_37 M x2 x4)), some (.int 1)]) (st' := []) (M' := M) (P := True) 4 rfl trivial ?_
                refine WX.forget2 (L' := [some (.ref 37), some (.ref 48), some (.int x2), some (.int x3), some (.int (x4 + 1)), none, none]) ?_ ⟨Or.inr rfl, Or.inr rfl, Or.inr rfl, Or.inr rfl, Or.inr rfl, Or.inl rfl, Or.inl rfl, trivial⟩
                exact (h26 c1 c2 c6 c10 c14 c15 c16)
              · refine WX.run (pc' := 6) (L' := [some (.ref 37), some (.ref 48), some (.int x2), some (.int (z_M_beside_37 M x2 x4)), some (.int (x4 + 1)), some (.int (z_M_beside_37 M x2 x4)), some (.int 1)]) (st' := []) (M' := M) (P := True) 5 rfl trivial ?_
                refine WX.forget2 (L' := [some (.ref 37), some (.ref 48), some (.int x2), some (.int (z_M_beside_37 M x2 x4)), some (.int (x4 + 1)), none, none]) ?_ ⟨Or.inr rfl, Or.inr rfl, Or.inr rfl, Or.inr rfl, Or.inr rfl, Or.inl rfl, Or.inl rfl, trivial⟩
                exact (h27 c1 c2 c6 c10 c14 c15 c16)
