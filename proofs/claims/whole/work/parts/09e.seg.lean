/-! ===== printed by wip/gen/gen08.py: the stretches of the methods ===== -/
theorem sg_M_puddles_37_48_0 {Q : Option Value → Mem → Prop} (M : Mem)
    (h1 : WX mi_M_puddles 5 Q 4 [some (.ref 37), some (.ref 48), some (.int 0), some (.int 0)] [] M) :
    WX mi_M_puddles 5 Q 0 [some (.ref 37), some (.ref 48), none, none] [] M := by
  refine WX.run (pc' := 4) (L' := [some (.ref 37), some (.ref 48), some (.int 0), some (.int 0)]) (st' := []) (M' := M) (P := True) 4 rfl trivial ?_
  exact h1
theorem sg_M_puddles_37_48_4 {Q : Option Value → Mem → Prop} (M : Mem) (x2 x3 : Int32)
    (h1 : 16 ≤ x3 → Q (some (.int x2)) M)
    (b2 : ¬ 16 ≤ x3 → ((z_M_isCell_37 M (rem x3 4) (x3 / 4)) = 0 ∨ (z_M_isCell_37 M (rem x3 4) (x3 / 4)) = 1))
    (h3 : ¬ 16 ≤ x3 → (z_M_isDry_37 M x3) = 0 → WX mi_M_puddles 5 Q 4 [some (.ref 37), some (.ref 48), some (.int (x2 ||| 0)), some (.int (x3 + 1))] [] M)
    (h4 : ¬ 16 ≤ x3 → ¬ (z_M_isDry_37 M x3) = 0 → ¬ (z_M_isDrain_37 M x3) = 0 → WX mi_M_puddles 5 Q 4 [some (.ref 37), some (.ref 48), some (.int (x2 ||| 0)), some (.int (x3 + 1))] [] M)
    (h5 : ¬ 16 ≤ x3 → ¬ (z_M_isDry_37 M x3) = 0 → (z_M_isDrain_37 M x3) = 0 → WX mi_M_nextOf 4 (fun rv M' => WX mi_M_puddles 5 Q 33 [some (.ref 37), some (.ref 48), some (.int x2), some (.int x3)] (rv.toList ++ [.int x2]) M') 0 [some (.ref 37), some (.ref 48), some (.int x3), none, none, none, none] [] M) :
    WX mi_M_puddles 5 Q 4 [some (.ref 37), some (.ref 48), some (.int x2), some (.int x3)] [] M := by
  refine WX.run (pc' := 7) (L' := [some (.ref 37), some (.ref 48), some (.int x2), some (.int x3)]) (st' := [.int 16, .int x3]) (M' := M) (P := True) 2 rfl trivial ?_
  refine WX.icmp_ge (off := 46) (tgt := 53) rfl rfl (fun c1 => ?_) (fun c1 => ?_)
  · refine WX.run (pc' := 54) (L' := [some (.ref 37), some (.ref 48), some (.int x2), some (.int x3)]) (st' := [.int x2]) (M' := M) (P := True) 1 rfl trivial ?_
    exact WX.iret rfl rfl (h1 c1)
  · refine WX.run (pc' := 13) (L' := [some (.ref 37), some (.ref 48), some (.int x2), some (.int x3)]) (st' := [.int x3, .ref 37, .int x2]) (M' := M) (P := True) 3 rfl trivial ?_
    refine WX.callV (ca := mi_M_isDry) (n := 1) (d' := 4) (st := [.int x2]) (As := [.int x3]) (q := 37) rfl lk_7_184 ck_M_isDry cv_M_isDry rfl (by decide) rfl (by decide) ⟨by decide, rfl, by decide⟩ (by intro w hw; simp only [List.mem_cons, List.not_mem_nil, or_false] at hw; rcases hw with rfl <;> rfl) (by decide) ?_
    refine wx_M_isDry_37 M x3 (b2 c1) ?_
    show WX mi_M_puddles 5 Q 16 [some (.ref 37), some (.ref 48), some (.int x2), some (.int x3)] [.int (z_M_isDry_37 M x3), .int x2] M
    refine WX.if_eq (off := 28) (tgt := 44) rfl rfl (fun c2 => ?_) (fun c2 => ?_)
    · refine WX.run (pc' := 4) (L' := [some (.ref 37), some (.ref 48), some (.int (x2 ||| 0)), some (.int (x3 + 1))]) (st' := []) (M' := M) (P := True) 5 rfl trivial ?_
      exact (h3 c1 c2)
    · refine WX.run (pc' := 21) (L' := [some (.ref 37), some (.ref 48), some (.int x2), some (.int x3)]) (st' := [.int x3, .ref 37, .int x2]) (M' := M) (P := True) 2 rfl trivial ?_
      refine WX.callV (ca := mi_M_isDrain) (n := 1) (d' := 1) (st := [.int x2]) (As := [.int x3]) (q := 37) rfl lk_7_138 ck_M_isDrain cv_M_isDrain rfl (by decide) rfl (by decide) ⟨by decide, rfl, by decide⟩ (by intro w hw; simp only [List.mem_cons, List.not_mem_nil, or_false] at hw; rcases hw with rfl <;> rfl) (by decide) ?_
      refine wx_M_isDrain_37 M x3 ?_
      show WX mi_M_puddles 5 Q 24 [some (.ref 37), some (.ref 48), some (.int x2), some (.int x3)] [.int (z_M_isDrain_37 M x3), .int x2] M
      refine WX.if_ne (off := 20) (tgt := 44) rfl rfl (fun c3 => ?_) (fun c3 => ?_)
      · refine WX.run (pc' := 4) (L' := [some (.ref 37), some (.ref 48), some (.int (x2 ||| 0)), some (.int (x3 + 1))]) (st' := []) (M' := M) (P := True) 5 rfl trivial ?_
        exact (h4 c1 c2 c3)
      · refine WX.run (pc' := 30) (L' := [some (.ref 37), some (.ref 48), some (.int x2), some (.int x3)]) (st' := [.int x3, .ref 48, .ref 37, .int x2]) (M' := M) (P := True) 3 rfl trivial ?_
        refine WX.callV (ca := mi_M_nextOf) (n := 2) (d' := 4) (st := [.int x2]) (As := [.ref 48, .int x3]) (q := 37) rfl lk_7_181 ck_M_nextOf cv_M_nextOf rfl (by decide) rfl (by decide) ⟨by decide, rfl, by decide⟩ (by intro w hw; simp only [List.mem_cons, List.not_mem_nil, or_false] at hw; rcases hw with rfl | rfl <;> rfl) (by decide) ?_
        exact (h5 c1 c2 c3)
theorem sg_M_puddles_37_48_33 {Q : Option Value → Mem → Prop} (M : Mem) (x2 x3 r s1 : Int32)
    (h1 : ¬ r = (-9) → WX mi_M_puddles 5 Q 4 [some (.ref 37), some (.ref 48), some (.int (s1 ||| 0)), some (.int (x3 + 1))] [] M)
    (h2 : r = (-9) → WX mi_M_puddles 5 Q 4 [some (.ref 37), some (.ref 48), some (.int (s1 ||| (shl 1 x3))), some (.int (x3 + 1))] [] M) :
    WX mi_M_puddles 5 Q 33 [some (.ref 37), some (.ref 48), some (.int x2), some (.int x3)] [.int r, .int s1] M := by
  refine WX.run (pc' := 35) (L' := [some (.ref 37), some (.ref 48), some (.int x2), some (.int x3)]) (st' := [.int (-9), .int r, .int s1]) (M' := M) (P := True) 1 rfl trivial ?_
  refine WX.icmp_ne (off := 9) (tgt := 44) rfl rfl (fun c1 => ?_) (fun c1 => ?_)
  · refine WX.run (pc' := 4) (L' := [some (.ref 37), some (.ref 48), some (.int (s1 ||| 0)), some (.int (x3 + 1))]) (st' := []) (M' := M) (P := True) 5 rfl trivial ?_
    exact (h1 c1)
  · refine WX.run (pc' := 4) (L' := [some (.ref 37), some (.ref 48), some (.int (s1 ||| (shl 1 x3))), some (.int (x3 + 1))]) (st' := []) (M' := M) (P := True) 8 rfl trivial ?_
    exact (h2 c1)
theorem sg_M_endOf_37_46_0 {Q : Option Value → Mem → Prop} (M : Mem) (x2 : Int32)
    (h1 : WX mi_M_nextOf 4 (fun rv M' => WX mi_M_endOf 5 Q 8 [some (.ref 37), some (.ref 46), some (.int x2), some (.int x2), none] (rv.toList ++ []) M') 0 [some (.ref 37), some (.ref 46), some (.int x2), none, none, none, none] [] M) :
    WX mi_M_endOf 5 Q 0 [some (.ref 37), some (.ref 46), some (.int x2), none, none] [] M := by
  refine WX.run (pc' := 5) (L' := [some (.ref 37), some (.ref 46), some (.int x2), some (.int x2), none]) (st' := [.int x2, .ref 46, .ref 37]) (M' := M) (P := True) 5 rfl trivial ?_
  refine WX.callV (ca := mi_M_nextOf) (n := 2) (d' := 4) (st := []) (As := [.ref 46, .int x2]) (q := 37) rfl lk_7_181 ck_M_nextOf cv_M_nextOf rfl (by decide) rfl (by decide) ⟨by decide, rfl, by decide⟩ (by intro w hw; simp only [List.mem_cons, List.not_mem_nil, or_false] at hw; rcases hw with rfl | rfl <;> rfl) (by decide) ?_
  exact h1
theorem sg_M_endOf_37_46_8 {Q : Option Value → Mem → Prop} (M : Mem) (x2 x3 r : Int32)
    (h1 : WX mi_M_endOf 5 Q 10 [some (.ref 37), some (.ref 46), some (.int x2), some (.int x3), some (.int r)] [] M) :
    WX mi_M_endOf 5 Q 8 [some (.ref 37), some (.ref 46), some (.int x2), some (.int x3), none] [.int r] M := by
  refine WX.run (pc' := 10) (L' := [some (.ref 37), some (.ref 46), some (.int x2), some (.int x3), some (.int r)]) (st' := []) (M' := M) (P := True) 1 rfl trivial ?_
  exact h1
theorem sg_M_endOf_37_46_10 {Q : Option Value → Mem → Prop} (M : Mem) (x2 x3 x4 : Int32)
    (h1 : x4 = (-9) → Q (some (.int x3)) M)
    (h2 : ¬ x4 = (-9) → WX mi_M_nextOf 4 (fun rv M' => WX mi_M_endOf 5 Q 26 [some (.ref 37), some (.ref 46), some (.int x2), some (.int x4), some (.int x4)] (rv.toList ++ []) M') 0 [some (.ref 37), some (.ref 46), some (.int x4), none, none, none, none] [] M) :
    WX mi_M_endOf 5 Q 10 [some (.ref 37), some (.ref 46), some (.int x2), some (.int x3), some (.int x4)] [] M := by
  refine WX.run (pc' := 14) (L' := [some (.ref 37), some (.ref 46), some (.int x2), some (.int x3), some (.int x4)]) (st' := [.int (-9), .int x4]) (M' := M) (P := True) 2 rfl trivial ?_
  refine WX.icmp_eq (off := 17) (tgt := 31) rfl rfl (fun c1 => ?_) (fun c1 => ?_)
  · refine WX.run (pc' := 32) (L' := [some (.ref 37), some (.ref 46), some (.int x2), some (.int x3), some (.int x4)]) (st' := [.int x3]) (M' := M) (P := True) 1 rfl trivial ?_
    exact WX.iret rfl rfl (h1 c1)
  · refine WX.run (pc' := 23) (L' := [some (.ref 37), some (.ref 46), some (.int x2), some (.int x4), some (.int x4)]) (st' := [.int x4, .ref 46, .ref 37]) (M' := M) (P := True) 5 rfl trivial ?_
    refine WX.callV (ca := mi_M_nextOf) (n := 2) (d' := 4) (st := []) (As := [.ref 46, .int x4]) (q := 37) rfl lk_7_181 ck_M_nextOf cv_M_nextOf rfl (by decide) rfl (by decide) ⟨by decide, rfl, by decide⟩ (by intro w hw; simp only [List.mem_cons, List.not_mem_nil, or_false] at hw; rcases hw with rfl | rfl <;> rfl) (by decide) ?_
    exact (h2 c1)
theorem sg_M_endOf_37_46_26 {Q : Option Value → Mem → Prop} (M : Mem) (x2 x3 x4 r : Int32)
    (h1 : WX mi_M_endOf 5 Q 10 [some (.ref 37), some (.ref 46), some (.int x2), some (.int x3), some (.int r)] [] M) :
    WX mi_M_endOf 5 Q 26 [some (.ref 37), some (.ref 46), some (.int x2), some (.int x3), some (.int x4)] [.int r] M := by
  refine WX.run (pc' := 10) (L' := [some (.ref 37), some (.ref 46), some (.int x2), some (.int x3), some (.int r)]) (st' := []) (M' := M) (P := True) 2 rfl trivial ?_
  exact h1
theorem sg_M_wayOf_37_0 {Q : Option Value → Mem → Prop} (M : Mem) (x1 : Int32)
    (h1 : WX mi_M_wayOf 5 Q 4 [some (.ref 37), some (.int x1), some (.int 0), some (.int x1)] [] M) :
    WX mi_M_wayOf 5 Q 0 [some (.ref 37), some (.int x1), none, none] [] M := by
  refine WX.run (pc' := 4) (L' := [some (.ref 37), some (.int x1), some (.int 0), some (.int x1)]) (st' := []) (M' := M) (P := True) 4 rfl trivial ?_
  exact h1
theorem sg_M_wayOf_37_4 {Q : Option Value → Mem → Prop} (M : Mem) (x1 x2 x3 : Int32)
    (h1 : x3 = (-9) → Q (some (.int x2)) M)
    (h2 : ¬ x3 = (-9) → WX mi_M_nextOf 4 (fun rv M' => WX mi_M_wayOf 5 Q 25 [some (.ref 37), some (.int x1), some (.int (x2 ||| (shl 1 x3))), some (.int x3)] (rv.toList ++ []) M') 0 [some (.ref 37), some (.ref 46), some (.int x3), none, none, none, none] [] M) :
    WX mi_M_wayOf 5 Q 4 [some (.ref 37), some (.int x1), some (.int x2), some (.int x3)] [] M := by
  refine WX.run (pc' := 7) (L' := [some (.ref 37), some (.int x1), some (.int x2), some (.int x3)]) (st' := [.int (-9), .int x3]) (M' := M) (P := True) 2 rfl trivial ?_
  refine WX.icmp_eq (off := 22) (tgt := 29) rfl rfl (fun c1 => ?_) (fun c1 => ?_)
  · refine WX.run (pc' := 30) (L' := [some (.ref 37), some (.int x1), some (.int x2), some (.int x3)]) (st' := [.int x2]) (M' := M) (P := True) 1 rfl trivial ?_
    exact WX.iret rfl rfl (h1 c1)
  · refine WX.run (pc' := 22) (L' := [some (.ref 37), some (.int x1), some (.int (x2 ||| (shl 1 x3))), some (.int x3)]) (st' := [.int x3, .ref 46, .ref 37]) (M' := M) (P := True) 10 rfl trivial ?_
    refine WX.callV (ca := mi_M_nextOf) (n := 2) (d' := 4) (st := []) (As := [.ref 46, .int x3]) (q := 37) rfl lk_7_181 ck_M_nextOf cv_M_nextOf rfl (by decide) rfl (by decide) ⟨by decide, rfl, by decide⟩ (by intro w hw; simp only [List.mem_cons, List.not_mem_nil, or_false] at hw; rcases hw with rfl | rfl <;> rfl) (by decide) ?_
    exact (h2 c1)
theorem sg_M_wayOf_37_25 {Q : Option Value → Mem → Prop} (M : Mem) (x1 x2 x3 r : Int32)
    (h1 : WX mi_M_wayOf 5 Q 4 [some (.ref 37), some (.int x1), some (.int x2), some (.int r)] [] M) :
    WX mi_M_wayOf 5 Q 25 [some (.ref 37), some (.int x1), some (.int x2), some (.int x3)] [.int r] M := by
  refine WX.run (pc' := 4) (L' := [some (.ref 37), some (.int x1), some (.int x2), some (.int r)]) (st' := []) (M' := M) (P := True) 2 rfl trivial ?_
  exact h1
theorem sg_M_findPlan_37_0 {Q : Option Value → Mem → Prop} (M : Mem)
    (h1 : WX mi_M_findPlan 5 Q 2 [some (.ref 37), some (.int 0), none, none, none, none] [] M) :
    WX mi_M_findPlan 5 Q 0 [some (.ref 37), none, none, none, none, none] [] M := by
  refine WX.run (pc' := 2) (L' := [some (.ref 37), some (.int 0), none, none, none, none]) (st' := []) (M' := M) (P := True) 2 rfl trivial ?_
  exact h1
theorem sg_M_findPlan_37_2 {Q : Option Value → Mem → Prop} (M : Mem) (x1 : Int32)
    (h1 : 16 ≤ x1 → WX mi_M_findPlan 5 Q 39 [some (.ref 37), some (.int 0), none, none, none, none] [] M)
    (b2 : ¬ 16 ≤ x1 → vp_in (16 + x1) 1257)
    (b3 : ¬ 16 ≤ x1 → vp_in x1 16)
    (h4 : ¬ 16 ≤ x1 → WX mi_M_findPlan 5 Q 2 [some (.ref 37), some (.int (x1 + 1)), none, none, none, none] [] (wr (wr M 49 x1.toNatClampNeg (M.1 46 (16 + x1).toNatClampNeg)) 53 x1.toNatClampNeg (-9))) :
    WX mi_M_findPlan 5 Q 2 [some (.ref 37), some (.int x1), none, none, none, none] [] M := by
  refine WX.run (pc' := 5) (L' := [some (.ref 37), some (.int x1), none, none, none, none]) (st' := [.int 16, .int x1]) (M' := M) (P := True) 2 rfl trivial ?_
  refine WX.icmp_ge (off := 32) (tgt := 37) rfl rfl (fun c1 => ?_) (fun c1 => ?_)
  · refine WX.run (pc' := 39) (L' := [some (.ref 37), some (.int 0), none, none, none, none]) (st' := []) (M' := M) (P := True) 2 rfl trivial ?_
    exact (h1 c1)
  · refine WX.run (pc' := 2) (L' := [some (.ref 37), some (.int (x1 + 1)), none, none, none, none]) (st' := []) (M' := (wr (wr M 49 x1.toNatClampNeg (M.1 46 (16 + x1).toNatClampNeg)) 53 x1.toNatClampNeg (-9))) (P := (((True ∧ vp_in (16 + x1) 1257) ∧ vp_in x1 16) ∧ vp_in x1 16)) 17 rfl ⟨⟨⟨trivial, (b2 c1)⟩, (b3 c1)⟩, (b3 c1)⟩ ?_
    exact (h4 c1)
theorem sg_M_findPlan_37_39 {Q : Option Value → Mem → Prop} (M : Mem) (x1 : Int32)
    (h1 : 4 ≤ x1 → WX mi_M_crosses 4 (fun rv M' => WX mi_M_findPlan 5 Q 81 [some (.ref 37), some (.int x1), none, none, none, none] (rv.toList ++ []) M') 0 [some (.ref 37), some (.ref 46), some (.int 16), none, none, none] [] (wr M 37 26 (-9)))
    (b2 : ¬ 4 ≤ x1 → vp_in (32 + x1) 1257)
    (b3 : ¬ 4 ≤ x1 → vp_in x1 4)
    (h4 : ¬ 4 ≤ x1 → WX mi_M_findPlan 5 Q 39 [some (.ref 37), some (.int (x1 + 1)), none, none, none, none] [] (wr M 50 x1.toNatClampNeg (M.1 46 (32 + x1).toNatClampNeg))) :
    WX mi_M_findPlan 5 Q 39 [some (.ref 37), some (.int x1), none, none, none, none] [] M := by
  refine WX.run (pc' := 41) (L' := [some (.ref 37), some (.int x1), none, none, none, none]) (st' := [.int 4, .int x1]) (M' := M) (P := True) 2 rfl trivial ?_
  refine WX.icmp_ge (off := 24) (tgt := 65) rfl rfl (fun c1 => ?_) (fun c1 => ?_)
  · refine WX.run (pc' := 78) (L' := [some (.ref 37), some (.int x1), none, none, none, none]) (st' := [.int 16, .ref 46, .ref 37]) (M' := (wr M 37 26 (-9))) (P := True) 7 rfl trivial ?_
    refine WX.callV (ca := mi_M_crosses) (n := 2) (d' := 4) (st := []) (As := [.ref 46, .int 16]) (q := 37) rfl lk_7_191 ck_M_crosses cv_M_crosses rfl (by decide) rfl (by decide) ⟨by decide, rfl, by decide⟩ (by intro w hw; simp only [List.mem_cons, List.not_mem_nil, or_false] at hw; rcases hw with rfl | rfl <;> rfl) (by decide) ?_
    exact (h1 c1)
  · refine WX.run (pc' := 39) (L' := [some (.ref 37), some (.int (x1 + 1)), none, none, none, none]) (st' := []) (M' := (wr M 50 x1.toNatClampNeg (M.1 46 (32 + x1).toNatClampNeg))) (P := ((True ∧ vp_in (32 + x1) 1257) ∧ vp_in x1 4)) 12 rfl ⟨⟨trivial, (b2 c1)⟩, (b3 c1)⟩ ?_
    exact (h4 c1)
theorem sg_M_findPlan_37_81 {Q : Option Value → Mem → Prop} (M : Mem) (x1 r : Int32)
    (h1 : r ≤ 0 → WX mi_M_findPlan 5 Q 92 [some (.ref 37), some (.int 0), some (.int 0), none, none, none] [] M)
    (h2 : ¬ r ≤ 0 → WX mi_M_findPlan 5 Q 92 [some (.ref 37), some (.int (-1)), some (.int 0), none, none, none] [] M) :
    WX mi_M_findPlan 5 Q 81 [some (.ref 37), some (.int x1), none, none, none, none] [.int r] M := by
  refine WX.if_le (off := 7) (tgt := 88) rfl rfl (fun c1 => ?_) (fun c1 => ?_)
  · refine WX.run (pc' := 92) (L' := [some (.ref 37), some (.int 0), some (.int 0), none, none, none]) (st' := []) (M' := M) (P := True) 4 rfl trivial ?_
    exact (h1 c1)
  · refine WX.run (pc' := 92) (L' := [some (.ref 37), some (.int (-1)), some (.int 0), none, none, none]) (st' := []) (M' := M) (P := True) 5 rfl trivial ?_
    exact (h2 c1)
theorem sg_M_findPlan_37_92 {Q : Option Value → Mem → Prop} (M : Mem) (x1 x2 : Int32)
    (h1 : x1 < 0 → Q none M)
    (h2 : ¬ x1 < 0 → WX mi_M_freeBy 4 (fun rv M' => WX mi_M_findPlan 5 Q 105 [some (.ref 37), some (.int x1), some (.int x2), none, none, none] (rv.toList ++ []) M') 0 [some (.ref 37), some (.ref 49), some (.int 0), none, none] [] M) :
    WX mi_M_findPlan 5 Q 92 [some (.ref 37), some (.int x1), some (.int x2), none, none, none] [] M := by
  refine WX.run (pc' := 93) (L' := [some (.ref 37), some (.int x1), some (.int x2), none, none, none]) (st' := [.int x1]) (M' := M) (P := True) 1 rfl trivial ?_
  refine WX.if_lt (off := 330) (tgt := 423) rfl rfl (fun c1 => ?_) (fun c1 => ?_)
  · exact WX.vret rfl rfl (h1 c1)
  · refine WX.run (pc' := 102) (L' := [some (.ref 37), some (.int x1), some (.int x2), none, none, none]) (st' := [.int 0, .ref 49, .ref 37]) (M' := M) (P := True) 4 rfl trivial ?_
    refine WX.callV (ca := mi_M_freeBy) (n := 2) (d' := 4) (st := []) (As := [.ref 49, .int 0]) (q := 37) rfl lk_7_154 ck_M_freeBy cv_M_freeBy rfl (by decide) rfl (by decide) ⟨by decide, rfl, by decide⟩ (by intro w hw; simp only [List.mem_cons, List.not_mem_nil, or_false] at hw; rcases hw with rfl | rfl <;> rfl) (by decide) ?_
    exact (h2 c1)
theorem sg_M_findPlan_37_105 {Q : Option Value → Mem → Prop} (M : Mem) (x1 x2 r : Int32)
    (h1 : ¬ r = 0 → r = 0 → 0 = 0 → WX mi_M_findPlan 5 Q 249 [some (.ref 37), some (.int x1), some (.int x2), some (.int r), some (.int 0), some (.int 0)] [] M)
    (h2 : ¬ r = 0 → r = 0 → ¬ 0 = 0 → WX mi_M_lowest 1 (fun rv M' => WX mi_M_findPlan 5 Q 243 [some (.ref 37), some (.int x1), some (.int x2), some (.int r), some (.int 0), none] (rv.toList ++ []) M') 0 [some (.ref 37), some (.int r), none] [] M)
    (h3 : ¬ r = 0 → ¬ r = 0 → (M.1 37 26) = (-9) → 1 = 0 → WX mi_M_findPlan 5 Q 249 [some (.ref 37), some (.int x1), some (.int x2), some (.int r), some (.int 1), some (.int 0)] [] M)
    (h4 : ¬ r = 0 → ¬ r = 0 → (M.1 37 26) = (-9) → ¬ 1 = 0 → WX mi_M_lowest 1 (fun rv M' => WX mi_M_findPlan 5 Q 243 [some (.ref 37), some (.int x1), some (.int x2), some (.int r), some (.int 1), none] (rv.toList ++ []) M') 0 [some (.ref 37), some (.int r), none] [] M)
    (h5 : ¬ r = 0 → ¬ r = 0 → ¬ (M.1 37 26) = (-9) → (M.1 37 26) ≤ (x1 + 1) → 0 = 0 → WX mi_M_findPlan 5 Q 249 [some (.ref 37), some (.int x1), some (.int x2), some (.int r), some (.int 0), some (.int 0)] [] M)
    (h6 : ¬ r = 0 → ¬ r = 0 → ¬ (M.1 37 26) = (-9) → (M.1 37 26) ≤ (x1 + 1) → ¬ 0 = 0 → WX mi_M_lowest 1 (fun rv M' => WX mi_M_findPlan 5 Q 243 [some (.ref 37), some (.int x1), some (.int x2), some (.int r), some (.int 0), none] (rv.toList ++ []) M') 0 [some (.ref 37), some (.int r), none] [] M)
    (h7 : ¬ r = 0 → ¬ r = 0 → ¬ (M.1 37 26) = (-9) → ¬ (M.1 37 26) ≤ (x1 + 1) → 1 = 0 → WX mi_M_findPlan 5 Q 249 [some (.ref 37), some (.int x1), some (.int x2), some (.int r), some (.int 1), some (.int 0)] [] M)
    (h8 : ¬ r = 0 → ¬ r = 0 → ¬ (M.1 37 26) = (-9) → ¬ (M.1 37 26) ≤ (x1 + 1) → ¬ 1 = 0 → WX mi_M_lowest 1 (fun rv M' => WX mi_M_findPlan 5 Q 243 [some (.ref 37), some (.int x1), some (.int x2), some (.int r), some (.int 1), none] (rv.toList ++ []) M') 0 [some (.ref 37), some (.int r), none] [] M)
    (h9 : r = 0 → (M.1 37 26) = (-9) → WX mi_M_crosses 4 (fun rv M' => WX mi_M_findPlan 5 Q 136 [some (.ref 37), some (.int x1), some (.int x2), some (.int r), none, none] (rv.toList ++ []) M') 0 [some (.ref 37), some (.ref 49), some (.int 0), none, none, none] [] M)
    (h10 : r = 0 → ¬ (M.1 37 26) = (-9) → (M.1 37 26) ≤ x1 → r = 0 → 0 = 0 → WX mi_M_findPlan 5 Q 249 [some (.ref 37), some (.int x1), some (.int x2), some (.int r), some (.int 0), some (.int 0)] [] M)
    (h11 : r = 0 → ¬ (M.1 37 26) = (-9) → (M.1 37 26) ≤ x1 → r = 0 → ¬ 0 = 0 → WX mi_M_lowest 1 (fun rv M' => WX mi_M_findPlan 5 Q 243 [some (.ref 37), some (.int x1), some (.int x2), some (.int r), some (.int 0), none] (rv.toList ++ []) M') 0 [some (.ref 37), some (.int r), none] [] M)
    (h12 : r = 0 → ¬ (M.1 37 26) = (-9) → (M.1 37 26) ≤ x1 → ¬ r = 0 → (M.1 37 26) = (-9) → 1 = 0 → WX mi_M_findPlan 5 Q 249 [some (.ref 37), some (.int x1), some (.int x2), some (.int r), some (.int 1), some (.int 0)] [] M)
    (h13 : r = 0 → ¬ (M.1 37 26) = (-9) → (M.1 37 26) ≤ x1 → ¬ r = 0 → (M.1 37 26) = (-9) → ¬ 1 = 0 → WX mi_M_lowest 1 (fun rv M' => WX mi_M_findPlan 5 Q 243 [some (.ref 37), some (.int x1), some (.int x2), some (.int r), some (.int 1), none] (rv.toList ++ []) M') 0 [some (.ref 37), some (.int r), none] [] M)
    (h14 : r = 0 → ¬ (M.1 37 26) = (-9) → (M.1 37 26) ≤ x1 → ¬ r = 0 → ¬ (M.1 37 26) = (-9) → (M.1 37 26) ≤ (x1 + 1) → 0 = 0 → WX mi_M_findPlan 5 Q 249 [some (.ref 37), some (.int x1), some (.int x2), some (.int r), some (.int 0), some (.int 0)] [] M)
    (h15 : r = 0 → ¬ (M.1 37 26) = (-9) → (M.1 37 26) ≤ x1 → ¬ r = 0 → ¬ (M.1 37 26) = (-9) → (M.1 37 26) ≤ (x1 + 1) → ¬ 0 = 0 → WX mi_M_lowest 1 (fun rv M' => WX mi_M_findPlan 5 Q 243 [some (.ref 37), some (.int x1), some (.int x2), some (.int r), some (.int 0), none] (rv.toList ++ []) M') 0 [some (.ref 37), some (.int r), none] [] M)
    (h16 : r = 0 → ¬ (M.1 37 26) = (-9) → (M.1 37 26) ≤ x1 → ¬ r = 0 → ¬ (M.1 37 26) = (-9) → ¬ (M.1 37 26) ≤ (x1 + 1) → 1 = 0 → WX mi_M_findPlan 5 Q 249 [some (.ref 37), some (.int x1), some (.int x2), some (.int r), some (.int 1), some (.int 0)] [] M)
    (h17 : r = 0 → ¬ (M.1 37 26) = (-9) → (M.1 37 26) ≤ x1 → ¬ r = 0 → ¬ (M.1 37 26) = (-9) → ¬ (M.1 37 26) ≤ (x1 + 1) → ¬ 1 = 0 → WX mi_M_lowest 1 (fun rv M' => WX mi_M_findPlan 5 Q 243 [some (.ref 37), some (.int x1), some (.int x2), some (.int r), some (.int 1), none] (rv.toList ++ []) M') 0 [some (.ref 37), some (.int r), none] [] M)
    (h18 : r = 0 → ¬ (M.1 37 26) = (-9) → ¬ (M.1 37 26) ≤ x1 → WX mi_M_crosses 4 (fun rv M' => WX mi_M_findPlan 5 Q 136 [some (.ref 37), some (.int x1), some (.int x2), some (.int r), none, none] (rv.toList ++ []) M') 0 [some (.ref 37), some (.ref 49), some (.int 0), none, none, none] [] M) :
    WX mi_M_findPlan 5 Q 105 [some (.ref 37), some (.int x1), some (.int x2), none, none, none] [.int r] M := by
  refine WX.run (pc' := 107) (L' := [some (.ref 37), some (.int x1), some (.int x2), some (.int r), none, none]) (st' := [.int r]) (M' := M) (P := True) 2 rfl trivial ?_
  refine WX.if_ne (off := 96) (tgt := 203) rfl rfl (fun c1 => ?_) (fun c1 => ?_)
  · refine WX.run (pc' := 204) (L' := [some (.ref 37), some (.int x1), some (.int x2), some (.int r), none, none]) (st' := [.int r]) (M' := M) (P := True) 1 rfl trivial ?_
    refine WX.if_eq (off := 26) (tgt := 230) rfl rfl (fun c2 => ?_) (fun c2 => ?_)
    · refine WX.run (pc' := 235) (L' := [some (.ref 37), some (.int x1), some (.int x2), some (.int r), some (.int 0), none]) (st' := [.int 0]) (M' := M) (P := True) 3 rfl trivial ?_
      refine WX.if_eq (off := 11) (tgt := 246) rfl rfl (fun c3 => ?_) (fun c3 => ?_)
      · refine WX.run (pc' := 249) (L' := [some (.ref 37), some (.int x1), some (.int x2), some (.int r), some (.int 0), some (.int 0)]) (st' := []) (M' := M) (P := True) 2 rfl trivial ?_
        exact (h1 c1 c2 c3)
      · refine WX.run (pc' := 240) (L' := [some (.ref 37), some (.int x1), some (.int x2), some (.int r), some (.int 0), none]) (st' := [.int r, .ref 37]) (M' := M) (P := True) 2 rfl trivial ?_
        refine WX.callV (ca := mi_M_lowest) (n := 1) (d' := 1) (st := []) (As := [.int r]) (q := 37) rfl lk_7_212 ck_M_lowest cv_M_lowest rfl (by decide) rfl (by decide) ⟨by decide, rfl, by decide⟩ (by intro w hw; simp only [List.mem_cons, List.not_mem_nil, or_false] at hw; rcases hw with rfl <;> rfl) (by decide) ?_
        exact (h2 c1 c2 c3)
    · refine WX.run (pc' := 213) (L' := [some (.ref 37), some (.int x1), some (.int x2), some (.int r), none, none]) (st' := [.int (-9), .int (M.1 37 26)]) (M' := M) (P := True) 3 rfl trivial ?_
      refine WX.icmp_eq (off := 13) (tgt := 226) rfl rfl (fun c4 => ?_) (fun c4 => ?_)
      · refine WX.run (pc' := 235) (L' := [some (.ref 37), some (.int x1), some (.int x2), some (.int r), some (.int 1), none]) (st' := [.int 1]) (M' := M) (P := True) 4 rfl trivial ?_
        refine WX.if_eq (off := 11) (tgt := 246) rfl rfl (fun c5 => ?_) (fun c5 => ?_)
        · refine WX.run (pc' := 249) (L' := [some (.ref 37), some (.int x1), some (.int x2), some (.int r), some (.int 1), some (.int 0)]) (st' := []) (M' := M) (P := True) 2 rfl trivial ?_
          exact (h3 c1 c2 c4 c5)
        · refine WX.run (pc' := 240) (L' := [some (.ref 37), some (.int x1), some (.int x2), some (.int r), some (.int 1), none]) (st' := [.int r, .ref 37]) (M' := M) (P := True) 2 rfl trivial ?_
          refine WX.callV (ca := mi_M_lowest) (n := 1) (d' := 1) (st := []) (As := [.int r]) (q := 37) rfl lk_7_212 ck_M_lowest cv_M_lowest rfl (by decide) rfl (by decide) ⟨by decide, rfl, by decide⟩ (by intro w hw; simp only [List.mem_cons, List.not_mem_nil, or_false] at hw; rcases hw with rfl <;> rfl) (by decide) ?_
          exact (h4 c1 c2 c4 c5)
      · refine WX.run (pc' := 223) (L' := [some (.ref 37), some (.int x1), some (.int x2), some (.int r), none, none]) (st' := [.int (M.1 37 26), .int (x1 + 1)]) (M' := M) (P := True) 5 rfl trivial ?_
        refine WX.icmp_ge (off := 7) (tgt := 230) rfl rfl (fun c6 => ?_) (fun c6 => ?_)
        · refine WX.run (pc' := 235) (L' := [some (.ref 37), some (.int x1), some (.int x2), some (.int r), some (.int 0), none]) (st' := [.int 0]) (M' := M) (P := True) 3 rfl trivial ?_
          refine WX.if_eq (off := 11) (tgt := 246) rfl rfl (fun c7 => ?_) (fun c7 => ?_)
          · refine WX.run (pc' := 249) (L' := [some (.ref 37), some (.int x1), some (.int x2), some (.int r), some (.int 0), some (.int 0)]) (st' := []) (M' := M) (P := True) 2 rfl trivial ?_
            exact (h5 c1 c2 c4 c6 c7)
          · refine WX.run (pc' := 240) (L' := [some (.ref 37), some (.int x1), some (.int x2), some (.int r), some (.int 0), none]) (st' := [.int r, .ref 37]) (M' := M) (P := True) 2 rfl trivial ?_
            refine WX.callV (ca := mi_M_lowest) (n := 1) (d' := 1) (st := []) (As := [.int r]) (q := 37) rfl lk_7_212 ck_M_lowest cv_M_lowest rfl (by decide) rfl (by decide) ⟨by decide, rfl, by decide⟩ (by intro w hw; simp only [List.mem_cons, List.not_mem_nil, or_false] at hw; rcases hw with rfl <;> rfl) (by decide) ?_
            exact (h6 c1 c2 c4 c6 c7)
        · refine WX.run (pc' := 235) (L' := [some (.ref 37), some (.int x1), some (.int x2), some (.int r), some (.int 1), none]) (st' := [.int 1]) (M' := M) (P := True) 4 rfl trivial ?_
          refine WX.if_eq (off := 11) (tgt := 246) rfl rfl (fun c8 => ?_) (fun c8 => ?_)
          · refine WX.run (pc' := 249) (L' := [some (.ref 37), some (.int x1), some (.int x2), some (.int r), some (.int 1), some (.int 0)]) (st' := []) (M' := M) (P := True) 2 rfl trivial ?_
            exact (h7 c1 c2 c4 c6 c8)
          · refine WX.run (pc' := 240) (L' := [some (.ref 37), some (.int x1), some (.int x2), some (.int r), some (.int 1), none]) (st' := [.int r, .ref 37]) (M' := M) (P := True) 2 rfl trivial ?_
            refine WX.callV (ca := mi_M_lowest) (n := 1) (d' := 1) (st := []) (As := [.int r]) (q := 37) rfl lk_7_212 ck_M_lowest cv_M_lowest rfl (by decide) rfl (by decide) ⟨by decide, rfl, by decide⟩ (by intro w hw; simp only [List.mem_cons, List.not_mem_nil, or_false] at hw; rcases hw with rfl <;> rfl) (by decide) ?_
            exact (h8 c1 c2 c4 c6 c8)
  · refine WX.run (pc' := 116) (L' := [some (.ref 37), some (.int x1), some (.int x2), some (.int r), none, none]) (st' := [.int (-9), .int (M.1 37 26)]) (M' := M) (P := True) 3 rfl trivial ?_
    refine WX.icmp_eq (off := 11) (tgt := 127) rfl rfl (fun c9 => ?_) (fun c9 => ?_)
    · refine WX.run (pc' := 133) (L' := [some (.ref 37), some (.int x1), some (.int x2), some (.int r), none, none]) (st' := [.int 0, .ref 49, .ref 37]) (M' := M) (P := True) 4 rfl trivial ?_
      refine WX.callV (ca := mi_M_crosses) (n := 2) (d' := 4) (st := []) (As := [.ref 49, .int 0]) (q := 37) rfl lk_7_191 ck_M_crosses cv_M_crosses rfl (by decide) rfl (by decide) ⟨by decide, rfl, by decide⟩ (by intro w hw; simp only [List.mem_cons, List.not_mem_nil, or_false] at hw; rcases hw with rfl | rfl <;> rfl) (by decide) ?_
      exact (h9 c1 c9)
    · refine WX.run (pc' := 124) (L' := [some (.ref 37), some (.int x1), some (.int x2), some (.int r), none, none]) (st' := [.int (M.1 37 26), .int x1]) (M' := M) (P := True) 3 rfl trivial ?_
      refine WX.icmp_ge (off := 79) (tgt := 203) rfl rfl (fun c10 => ?_) (fun c10 => ?_)
      · refine WX.run (pc' := 204) (L' := [some (.ref 37), some (.int x1), some (.int x2), some (.int r), none, none]) (st' := [.int r]) (M' := M) (P := True) 1 rfl trivial ?_
        refine WX.if_eq (off := 26) (tgt := 230) rfl rfl (fun c11 => ?_) (fun c11 => ?_)
        · refine WX.run (pc' := 235) (L' := [some (.ref 37), some (.int x1), some (.int x2), some (.int r), some (.int 0), none]) (st' := [.int 0]) (M' := M) (P := True) 3 rfl trivial ?_
          refine WX.if_eq (off := 11) (tgt := 246) rfl rfl (fun c12 => ?_) (fun c12 => ?_)
          · refine WX.run (pc' := 249) (L' := [some (.ref 37), some (.int x1), some (.int x2), some (.int r), some (.int 0), some (.int 0)]) (st' := []) (M' := M) (P := True) 2 rfl trivial ?_
            exact (h10 c1 c9 c10 c11 c12)
          · refine WX.run (pc' := 240) (L' := [some (.ref 37), some (.int x1), some (.int x2), some (.int r), some (.int 0), none]) (st' := [.int r, .ref 37]) (M' := M) (P := True) 2 rfl trivial ?_
            refine WX.callV (ca := mi_M_lowest) (n := 1) (d' := 1) (st := []) (As := [.int r]) (q := 37) rfl lk_7_212 ck_M_lowest cv_M_lowest rfl (by decide) rfl (by decide) ⟨by decide, rfl, by decide⟩ (by intro w hw; simp only [List.mem_cons, List.not_mem_nil, or_false] at hw; rcases hw with rfl <;> rfl) (by decide) ?_
            exact (h11 c1 c9 c10 c11 c12)
        · refine WX.run (pc' := 213) (L' := [some (.ref 37), some (.int x1), some (.int x2), some (.int r), none, none]) (st' := [.int (-9), .int (M.1 37 26)]) (M' := M) (P := True) 3 rfl trivial ?_
          refine WX.icmp_eq (off := 13) (tgt := 226) rfl rfl (fun c13 => ?_) (fun c13 => ?_)
          · refine WX.run (pc' := 235) (L' := [some (.ref 37), some (.int x1), some (.int x2), some (.int r), some (.int 1), none]) (st' := [.int 1]) (M' := M) (P := True) 4 rfl trivial ?_
            refine WX.if_eq (off := 11) (tgt := 246) rfl rfl (fun c14 => ?_) (fun c14 => ?_)
            · refine WX.run (pc' := 249) (L' := [some (.ref 37), some (.int x1), some (.int x2), some (.int r), some (.int 1), some (.int 0)]) (st' := []) (M' := M) (P := True) 2 rfl trivial ?_
              exact (h12 c1 c9 c10 c11 c13 c14)
            · refine WX.run (pc' := 240) (L' := [some (.ref 37), some (.int x1), some (.int x2), some (.int r), some (.int 1), none]) (st' := [.int r, .ref 37]) (M' := M) (P := True) 2 rfl trivial ?_
              refine WX.callV (ca := mi_M_lowest) (n := 1) (d' := 1) (st := []) (As := [.int r]) (q := 37) rfl lk_7_212 ck_M_lowest cv_M_lowest rfl (by decide) rfl (by decide) ⟨by decide, rfl, by decide⟩ (by intro w hw; simp only [List.mem_cons, List.not_mem_nil, or_false] at hw; rcases hw with rfl <;> rfl) (by decide) ?_
              exact (h13 c1 c9 c10 c11 c13 c14)
          · refine WX.run (pc' := 223) (L' := [some (.ref 37), some (.int x1), some (.int x2), some (.int r), none, none]) (st' := [.int (M.1 37 26), .int (x1 + 1)]) (M' := M) (P := True) 5 rfl trivial ?_
            refine WX.icmp_ge (off := 7) (tgt := 230) rfl rfl (fun c15 => ?_) (fun c15 => ?_)
            · refine WX.run (pc' := 235) (L' := [some (.ref 37), some (.int x1), some (.int x2), some (.int r), some (.int 0), none]) (st' := [.int 0]) (M' := M) (P := True) 3 rfl trivial ?_
              refine WX.if_eq (off := 11) (tgt := 246) rfl rfl (fun c16 => ?_) (fun c16 => ?_)
              · refine WX.run (pc' := 249) (L' := [some (.ref 37), some (.int x1), some (.int x2), some (.int r), some (.int 0), some (.int 0)]) (st' := []) (M' := M) (P := True) 2 rfl trivial ?_
                exact (h14 c1 c9 c10 c11 c13 c15 c16)
              · refine WX.run (pc' := 240) (L' := [some (.ref 37), some (.int x1), some (.int x2), some (.int r), some (.int 0), none]) (st' := [.int r, .ref 37]) (M' := M) (P := True) 2 rfl trivial ?_
                refine WX.callV (ca := mi_M_lowest) (n := 1) (d' := 1) (st := []) (As := [.int r]) (q := 37) rfl lk_7_212 ck_M_lowest cv_M_lowest rfl (by decide) rfl (by decide) ⟨by decide, rfl, by decide⟩ (by intro w hw; simp only [List.mem_cons, List.not_mem_nil, or_false] at hw; rcases hw with rfl <;> rfl) (by decide) ?_
                exact (h15 c1 c9 c10 c11 c13 c15 c16)
            · refine WX.run (pc' := 235) (L' := [some (.ref 37), some (.int x1), some (.int x2), some (.int r), some (.int 1), none]) (st' := [.int 1]) (M' := M) (P := True) 4 rfl trivial ?_
              refine WX.if_eq (off := 11) (tgt := 246) rfl rfl (fun c17 => ?_) (fun c17 => ?_)
              · refine WX.run (pc' := 249) (L' := [some (.ref 37), some (.int x1), some (.int x2), some (.int r), some (.int 1), some (.int 0)]) (st' := []) (M' := M) (P := True) 2 rfl trivial ?_
                exact (h16 c1 c9 c10 c11 c13 c15 c17)
              · refine WX.run (pc' := 240) (L' := [some (.ref 37), some (.int x1), some (.int x2), some (.int r), some (.int 1), none]) (st' := [.int r, .ref 37]) (M' := M) (P := True) 2 rfl trivial ?_
                refine WX.callV (ca := mi_M_lowest) (n := 1) (d' := 1) (st := []) (As := [.int r]) (q := 37) rfl lk_7_212 ck_M_lowest cv_M_lowest rfl (by decide) rfl (by decide) ⟨by decide, rfl, by decide⟩ (by intro w hw; simp only [List.mem_cons, List.not_mem_nil, or_false] at hw; rcases hw with rfl <;> rfl) (by decide) ?_
                exact (h17 c1 c9 c10 c11 c13 c15 c17)
      · refine WX.run (pc' := 133) (L' := [some (.ref 37), some (.int x1), some (.int x2), some (.int r), none, none]) (st' := [.int 0, .ref 49, .ref 37]) (M' := M) (P := True) 4 rfl trivial ?_
        refine WX.callV (ca := mi_M_crosses) (n := 2) (d' := 4) (st := []) (As := [.ref 49, .int 0]) (q := 37) rfl lk_7_191 ck_M_crosses cv_M_crosses rfl (by decide) rfl (by decide) ⟨by decide, rfl, by decide⟩ (by intro w hw; simp only [List.mem_cons, List.not_mem_nil, or_false] at hw; rcases hw with rfl | rfl <;> rfl) (by decide) ?_
        exact (h18 c1 c9 c10)
theorem sg_M_findPlan_37_249 {Q : Option Value → Mem → Prop} (M : Mem) (x1 x2 x3 x4 x5 : Int32)
    (h1 : x4 = 0 → x4 = 0 → (x1 + (-1)) < 0 → WX mi_M_findPlan 5 Q 92 [some (.ref 37), some (.int (x1 + (-1))), some (.int x2), none, none, none] [] M)
    (b2 : x4 = 0 → x4 = 0 → ¬ (x1 + (-1)) < 0 → vp_in (x1 + (-1)) 17)
    (h3 : x4 = 0 → x4 = 0 → ¬ (x1 + (-1)) < 0 → WX mi_M_cellsOf 3 (fun rv M' => WX mi_M_findPlan 5 Q 391 [some (.ref 37), some (.int (x1 + (-1))), some (.int x2), some (.int x3), some (.int x4), some (.int x5)] (rv.toList ++ [.int 0, .ref 49]) M') 0 [some (.ref 37), some (.int (M.1 52 (x1 + (-1)).toNatClampNeg)), some (.int (M.1 51 (x1 + (-1)).toNatClampNeg)), none, none, none, none] [] M)
    (h4 : x4 = 0 → ¬ x4 = 0 → 4 ≤ x2 → (x1 + (-1)) < 0 → WX mi_M_findPlan 5 Q 92 [some (.ref 37), some (.int (x1 + (-1))), some (.int x2), none, none, none] [] M)
    (b5 : x4 = 0 → ¬ x4 = 0 → 4 ≤ x2 → ¬ (x1 + (-1)) < 0 → vp_in (x1 + (-1)) 17)
    (h6 : x4 = 0 → ¬ x4 = 0 → 4 ≤ x2 → ¬ (x1 + (-1)) < 0 → WX mi_M_cellsOf 3 (fun rv M' => WX mi_M_findPlan 5 Q 391 [some (.ref 37), some (.int (x1 + (-1))), some (.int x2), some (.int x3), some (.int x4), some (.int x5)] (rv.toList ++ [.int 0, .ref 49]) M') 0 [some (.ref 37), some (.int (M.1 52 (x1 + (-1)).toNatClampNeg)), some (.int (M.1 51 (x1 + (-1)).toNatClampNeg)), none, none, none, none] [] M)
    (h7 : x4 = 0 → ¬ x4 = 0 → ¬ 4 ≤ x2 → WX mi_M_cellsOf 3 (fun rv M' => WX mi_M_findPlan 5 Q 320 [some (.ref 37), some (.int x1), some (.int x2), some (.int x3), some (.int x4), some (.int x5)] (rv.toList ++ [.int 0, .ref 49]) M') 0 [some (.ref 37), some (.int x2), some (.int x5), none, none, none, none] [] M)
    (h8 : ¬ x4 = 0 → 4 ≤ x2 → x4 = 0 → (x1 + (-1)) < 0 → WX mi_M_findPlan 5 Q 92 [some (.ref 37), some (.int (x1 + (-1))), some (.int x2), none, none, none] [] M)
    (b9 : ¬ x4 = 0 → 4 ≤ x2 → x4 = 0 → ¬ (x1 + (-1)) < 0 → vp_in (x1 + (-1)) 17)
    (h10 : ¬ x4 = 0 → 4 ≤ x2 → x4 = 0 → ¬ (x1 + (-1)) < 0 → WX mi_M_cellsOf 3 (fun rv M' => WX mi_M_findPlan 5 Q 391 [some (.ref 37), some (.int (x1 + (-1))), some (.int x2), some (.int x3), some (.int x4), some (.int x5)] (rv.toList ++ [.int 0, .ref 49]) M') 0 [some (.ref 37), some (.int (M.1 52 (x1 + (-1)).toNatClampNeg)), some (.int (M.1 51 (x1 + (-1)).toNatClampNeg)), none, none, none, none] [] M)
    (h11 : ¬ x4 = 0 → 4 ≤ x2 → ¬ x4 = 0 → 4 ≤ x2 → (x1 + (-1)) < 0 → WX mi_M_findPlan 5 Q 92 [some (.ref 37), some (.int (x1 + (-1))), some (.int x2), none, none, none] [] M)
    (b12 : ¬ x4 = 0 → 4 ≤ x2 → ¬ x4 = 0 → 4 ≤ x2 → ¬ (x1 + (-1)) < 0 → vp_in (x1 + (-1)) 17)
    (h13 : ¬ x4 = 0 → 4 ≤ x2 → ¬ x4 = 0 → 4 ≤ x2 → ¬ (x1 + (-1)) < 0 → WX mi_M_cellsOf 3 (fun rv M' => WX mi_M_findPlan 5 Q 391 [some (.ref 37), some (.int (x1 + (-1))), some (.int x2), some (.int x3), some (.int x4), some (.int x5)] (rv.toList ++ [.int 0, .ref 49]) M') 0 [some (.ref 37), some (.int (M.1 52 (x1 + (-1)).toNatClampNeg)), some (.int (M.1 51 (x1 + (-1)).toNatClampNeg)), none, none, none, none] [] M)
    (h14 : ¬ x4 = 0 → 4 ≤ x2 → ¬ x4 = 0 → ¬ 4 ≤ x2 → WX mi_M_cellsOf 3 (fun rv M' => WX mi_M_findPlan 5 Q 320 [some (.ref 37), some (.int x1), some (.int x2), some (.int x3), some (.int x4), some (.int x5)] (rv.toList ++ [.int 0, .ref 49]) M') 0 [some (.ref 37), some (.int x2), some (.int x5), none, none, none, none] [] M)
    (b15 : ¬ x4 = 0 → ¬ 4 ≤ x2 → vp_in x2 4)
    (h16 : ¬ x4 = 0 → ¬ 4 ≤ x2 → (M.1 50 x2.toNatClampNeg) = 0 → WX mi_M_findPlan 5 Q 249 [some (.ref 37), some (.int x1), some (.int (x2 + 1)), some (.int x3), some (.int x4), some (.int x5)] [] M)
    (h17 : ¬ x4 = 0 → ¬ 4 ≤ x2 → ¬ (M.1 50 x2.toNatClampNeg) = 0 → WX mi_M_cellsOf 3 (fun rv M' => WX mi_M_findPlan 5 Q 275 [some (.ref 37), some (.int x1), some (.int x2), some (.int x3), some (.int x4), some (.int x5)] (rv.toList ++ []) M') 0 [some (.ref 37), some (.int x2), some (.int x5), none, none, none, none] [] M) :
    WX mi_M_findPlan 5 Q 249 [some (.ref 37), some (.int x1), some (.int x2), some (.int x3), some (.int x4), some (.int x5)] [] M := by
  refine WX.run (pc' := 251) (L' := [some (.ref 37), some (.int x1), some (.int x2), some (.int x3), some (.int x4), some (.int x5)]) (st' := [.int x4]) (M' := M) (P := True) 1 rfl trivial ?_
  refine WX.if_eq (off := 47) (tgt := 298) rfl rfl (fun c1 => ?_) (fun c1 => ?_)
  · refine WX.run (pc' := 300) (L' := [some (.ref 37), some (.int x1), some (.int x2), some (.int x3), some (.int x4), some (.int x5)]) (st' := [.int x4]) (M' := M) (P := True) 1 rfl trivial ?_
    refine WX.if_eq (off := 63) (tgt := 363) rfl rfl (fun c2 => ?_) (fun c2 => ?_)
    · refine WX.run (pc' := 367) (L' := [some (.ref 37), some (.int (x1 + (-1))), some (.int x2), some (.int x3), some (.int x4), some (.int x5)]) (st' := [.int (x1 + (-1))]) (M' := M) (P := True) 2 rfl trivial ?_
      refine WX.if_lt (off := 53) (tgt := 420) rfl rfl (fun c3 => ?_) (fun c3 => ?_)
      · refine WX.run (pc' := 92) (L' := [some (.ref 37), some (.int (x1 + (-1))), some (.int x2), some (.int x3), some (.int x4), some (.int x5)]) (st' := []) (M' := M) (P := True) 1 rfl trivial ?_
        refine WX.forget2 (L' := [some (.ref 37), some (.int (x1 + (-1))), some (.int x2), none, none, none]) ?_ ⟨Or.inr rfl, Or.inr rfl, Or.inr rfl, Or.inl rfl, Or.inl rfl, Or.inl rfl, trivial⟩
        exact (h1 c1 c2 c3)
      · refine WX.run (pc' := 388) (L' := [some (.ref 37), some (.int (x1 + (-1))), some (.int x2), some (.int x3), some (.int x4), some (.int x5)]) (st' := [.int (M.1 51 (x1 + (-1)).toNatClampNeg), .int (M.1 52 (x1 + (-1)).toNatClampNeg), .ref 37, .int 0, .ref 49]) (M' := M) (P := ((True ∧ vp_in (x1 + (-1)) 17) ∧ vp_in (x1 + (-1)) 17)) 12 rfl ⟨⟨trivial, (b2 c1 c2 c3)⟩, (b2 c1 c2 c3)⟩ ?_
        refine WX.callV (ca := mi_M_cellsOf) (n := 2) (d' := 3) (st := [.int 0, .ref 49]) (As := [.int (M.1 52 (x1 + (-1)).toNatClampNeg), .int (M.1 51 (x1 + (-1)).toNatClampNeg)]) (q := 37) rfl lk_7_151 ck_M_cellsOf cv_M_cellsOf rfl (by decide) rfl (by decide) ⟨by decide, rfl, by decide⟩ (by intro w hw; simp only [List.mem_cons, List.not_mem_nil, or_false] at hw; rcases hw with rfl | rfl <;> rfl) (by decide) ?_
        exact (h3 c1 c2 c3)
    · refine WX.run (pc' := 305) (L' := [some (.ref 37), some (.int x1), some (.int x2), some (.int x3), some (.int x4), some (.int x5)]) (st' := [.int 4, .int x2]) (M' := M) (P := True) 2 rfl trivial ?_
      refine WX.icmp_ge (off := 58) (tgt := 363) rfl rfl (fun c4 => ?_) (fun c4 => ?_)
      · refine WX.run (pc' := 367) (L' := [some (.ref 37), some (.int (x1 + (-1))), some (.int x2), some (.int x3), some (.int x4), some (.int x5)]) (st' := [.int (x1 + (-1))]) (M' := M) (P := True) 2 rfl trivial ?_
        refine WX.if_lt (off := 53) (tgt := 420) rfl rfl (fun c5 => ?_) (fun c5 => ?_)
        · refine WX.run (pc' := 92) (L' := [some (.ref 37), some (.int (x1 + (-1))), some (.int x2), some (.int x3), some (.int x4), some (.int x5)]) (st' := []) (M' := M) (P := True) 1 rfl trivial ?_
          refine WX.forget2 (L' := [some (.ref 37), some (.int (x1 + (-1))), some (.int x2), none, none, none]) ?_ ⟨Or.inr rfl, Or.inr rfl, Or.inr rfl, Or.inl rfl, Or.inl rfl, Or.inl rfl, trivial⟩
          exact (h4 c1 c2 c4 c5)
        · refine WX.run (pc' := 388) (L' := [some (.ref 37), some (.int (x1 + (-1))), some (.int x2), some (.int x3), some (.int x4), some (.int x5)]) (st' := [.int (M.1 51 (x1 + (-1)).toNatClampNeg), .int (M.1 52 (x1 + (-1)).toNatClampNeg), .ref 37, .int 0, .ref 49]) (M' := M) (P := ((True ∧ vp_in (x1 + (-1)) 17) ∧ vp_in (x1 + (-1)) 17)) 12 rfl ⟨⟨trivial, (b5 c1 c2 c4 c5)⟩, (b5 c1 c2 c4 c5)⟩ ?_
          refine WX.callV (ca := mi_M_cellsOf) (n := 2) (d' := 3) (st := [.int 0, .ref 49]) (As := [.int (M.1 52 (x1 + (-1)).toNatClampNeg), .int (M.1 51 (x1 + (-1)).toNatClampNeg)]) (q := 37) rfl lk_7_151 ck_M_cellsOf cv_M_cellsOf rfl (by decide) rfl (by decide) ⟨by decide, rfl, by decide⟩ (by intro w hw; simp only [List.mem_cons, List.not_mem_nil, or_false] at hw; rcases hw with rfl | rfl <;> rfl) (by decide) ?_
          exact (h6 c1 c2 c4 c5)
      · refine WX.run (pc' := 317) (L' := [some (.ref 37), some (.int x1), some (.int x2), some (.int x3), some (.int x4), some (.int x5)]) (st' := [.int x5, .int x2, .ref 37, .int 0, .ref 49]) (M' := M) (P := True) 6 rfl trivial ?_
        refine WX.callV (ca := mi_M_cellsOf) (n := 2) (d' := 3) (st := [.int 0, .ref 49]) (As := [.int x2, .int x5]) (q := 37) rfl lk_7_151 ck_M_cellsOf cv_M_cellsOf rfl (by decide) rfl (by decide) ⟨by decide, rfl, by decide⟩ (by intro w hw; simp only [List.mem_cons, List.not_mem_nil, or_false] at hw; rcases hw with rfl | rfl <;> rfl) (by decide) ?_
        exact (h7 c1 c2 c4)
  · refine WX.run (pc' := 256) (L' := [some (.ref 37), some (.int x1), some (.int x2), some (.int x3), some (.int x4), some (.int x5)]) (st' := [.int 4, .int x2]) (M' := M) (P := True) 2 rfl trivial ?_
    refine WX.icmp_ge (off := 42) (tgt := 298) rfl rfl (fun c6 => ?_) (fun c6 => ?_)
    · refine WX.run (pc' := 300) (L' := [some (.ref 37), some (.int x1), some (.int x2), some (.int x3), some (.int x4), some (.int x5)]) (st' := [.int x4]) (M' := M) (P := True) 1 rfl trivial ?_
      refine WX.if_eq (off := 63) (tgt := 363) rfl rfl (fun c7 => ?_) (fun c7 => ?_)
      · refine WX.run (pc' := 367) (L' := [some (.ref 37), some (.int (x1 + (-1))), some (.int x2), some (.int x3), some (.int x4), some (.int x5)]) (st' := [.int (x1 + (-1))]) (M' := M) (P := True) 2 rfl trivial ?_
        refine WX.if_lt (off := 53) (tgt := 420) rfl rfl (fun c8 => ?_) (fun c8 => ?_)
        · refine WX.run (pc' := 92) (L' := [some (.ref 37), some (.int (x1 + (-1))), some (.int x2), some (.int x3), some (.int x4), some (.int x5)]) (st' := []) (M' := M) (P := True) 1 rfl trivial ?_
          refine WX.forget2 (L' := [some (.ref 37), some (.int (x1 + (-1))), some (.int x2), none, none, none]) ?_ ⟨Or.inr rfl, Or.inr rfl, Or.inr rfl, Or.inl rfl, Or.inl rfl, Or.inl rfl, trivial⟩
          exact (h8 c1 c6 c7 c8)
        · refine WX.run (pc' := 388) (L' := [some (.ref 37), some (.int (x1 + (-1))), some (.int x2), some (.int x3), some (.int x4), some (.int x5)]) (st' := [.int (M.1 51 (x1 + (-1)).toNatClampNeg), .int (M.1 52 (x1 + (-1)).toNatClampNeg), .ref 37, .int 0, .ref 49]) (M' := M) (P := ((True ∧ vp_in (x1 + (-1)) 17) ∧ vp_in (x1 + (-1)) 17)) 12 rfl ⟨⟨trivial, (b9 c1 c6 c7 c8)⟩, (b9 c1 c6 c7 c8)⟩ ?_
          refine WX.callV (ca := mi_M_cellsOf) (n := 2) (d' := 3) (st := [.int 0, .ref 49]) (As := [.int (M.1 52 (x1 + (-1)).toNatClampNeg), .int (M.1 51 (x1 + (-1)).toNatClampNeg)]) (q := 37) rfl lk_7_151 ck_M_cellsOf cv_M_cellsOf rfl (by decide) rfl (by decide) ⟨by decide, rfl, by decide⟩ (by intro w hw; simp only [List.mem_cons, List.not_mem_nil, or_false] at hw; rcases hw with rfl | rfl <;> rfl) (by decide) ?_
          exact (h10 c1 c6 c7 c8)
      · refine WX.run (pc' := 305) (L' := [some (.ref 37), some (.int x1), some (.int x2), some (.int x3), some (.int x4), some (.int x5)]) (st' := [.int 4, .int x2]) (M' := M) (P := True) 2 rfl trivial ?_
        refine WX.icmp_ge (off := 58) (tgt := 363) rfl rfl (fun c9 => ?_) (fun c9 => ?_)
        · refine WX.run (pc' := 367) (L' := [some (.ref 37), some (.int (x1 + (-1))), some (.int x2), some (.int x3), some (.int x4), some (.int x5)]) (st' := [.int (x1 + (-1))]) (M' := M) (P := True) 2 rfl trivial ?_
          refine WX.if_lt (off := 53) (tgt := 420) rfl rfl (fun c10 => ?_) (fun c10 => ?_)
          · refine WX.run (pc' := 92) (L' := [some (.ref 37), some (.int (x1 + (-1))), some (.int x2), some (.int x3), some (.int x4), some (.int x5)]) (st' := []) (M' := M) (P := True) 1 rfl trivial ?_
            refine WX.forget2 (L' := [some (.ref 37), some (.int (x1 + (-1))), some (.int x2), none, none, none]) ?_ ⟨Or.inr rfl, Or.inr rfl, Or.inr rfl, Or.inl rfl, Or.inl rfl, Or.inl rfl, trivial⟩
            exact (h11 c1 c6 c7 c9 c10)
          · refine WX.run (pc' := 388) (L' := [some (.ref 37), some (.int (x1 + (-1))), some (.int x2), some (.int x3), some (.int x4), some (.int x5)]) (st' := [.int (M.1 51 (x1 + (-1)).toNatClampNeg), .int (M.1 52 (x1 + (-1)).toNatClampNeg), .ref 37, .int 0, .ref 49]) (M' := M) (P := ((True ∧ vp_in (x1 + (-1)) 17) ∧ vp_in (x1 + (-1)) 17)) 12 rfl ⟨⟨trivial, (b12 c1 c6 c7 c9 c10)⟩, (b12 c1 c6 c7 c9 c10)⟩ ?_
            refine WX.callV (ca := mi_M_cellsOf) (n := 2) (d' := 3) (st := [.int 0, .ref 49]) (As := [.int (M.1 52 (x1 + (-1)).toNatClampNeg), .int (M.1 51 (x1 + (-1)).toNatClampNeg)]) (q := 37) rfl lk_7_151 ck_M_cellsOf cv_M_cellsOf rfl (by decide) rfl (by decide) ⟨by decide, rfl, by decide⟩ (by intro w hw; simp only [List.mem_cons, List.not_mem_nil, or_false] at hw; rcases hw with rfl | rfl <;> rfl) (by decide) ?_
            exact (h13 c1 c6 c7 c9 c10)
        · refine WX.run (pc' := 317) (L' := [some (.ref 37), some (.int x1), some (.int x2), some (.int x3), some (.int x4), some (.int x5)]) (st' := [.int x5, .int x2, .ref 37, .int 0, .ref 49]) (M' := M) (P := True) 6 rfl trivial ?_
          refine WX.callV (ca := mi_M_cellsOf) (n := 2) (d' := 3) (st := [.int 0, .ref 49]) (As := [.int x2, .int x5]) (q := 37) rfl lk_7_151 ck_M_cellsOf cv_M_cellsOf rfl (by decide) rfl (by decide) ⟨by decide, rfl, by decide⟩ (by intro w hw; simp only [List.mem_cons, List.not_mem_nil, or_false] at hw; rcases hw with rfl | rfl <;> rfl) (by decide) ?_
          exact (h14 c1 c6 c7 c9)
    · refine WX.run (pc' := 265) (L' := [some (.ref 37), some (.int x1), some (.int x2), some (.int x3), some (.int x4), some (.int x5)]) (st' := [.int (M.1 50 x2.toNatClampNeg)]) (M' := M) (P := (True ∧ vp_in x2 4)) 4 rfl ⟨trivial, (b15 c1 c6)⟩ ?_
      refine WX.if_eq (off := 27) (tgt := 292) rfl rfl (fun c11 => ?_) (fun c11 => ?_)
      · refine WX.run (pc' := 249) (L' := [some (.ref 37), some (.int x1), some (.int (x2 + 1)), some (.int x3), some (.int x4), some (.int x5)]) (st' := []) (M' := M) (P := True) 2 rfl trivial ?_
        exact (h16 c1 c6 c11)
      · refine WX.run (pc' := 272) (L' := [some (.ref 37), some (.int x1), some (.int x2), some (.int x3), some (.int x4), some (.int x5)]) (st' := [.int x5, .int x2, .ref 37]) (M' := M) (P := True) 3 rfl trivial ?_
        refine WX.callV (ca := mi_M_cellsOf) (n := 2) (d' := 3) (st := []) (As := [.int x2, .int x5]) (q := 37) rfl lk_7_151 ck_M_cellsOf cv_M_cellsOf rfl (by decide) rfl (by decide) ⟨by decide, rfl, by decide⟩ (by intro w hw; simp only [List.mem_cons, List.not_mem_nil, or_false] at hw; rcases hw with rfl | rfl <;> rfl) (by decide) ?_
        exact (h17 c1 c6 c11)
theorem sg_M_findPlan_37_243 {Q : Option Value → Mem → Prop} (M : Mem) (x1 x2 x3 x4 r : Int32)
    (h1 : WX mi_M_findPlan 5 Q 249 [some (.ref 37), some (.int x1), some (.int x2), some (.int x3), some (.int x4), some (.int r)] [] M) :
    WX mi_M_findPlan 5 Q 243 [some (.ref 37), some (.int x1), some (.int x2), some (.int x3), some (.int x4), none] [.int r] M := by
  refine WX.run (pc' := 249) (L' := [some (.ref 37), some (.int x1), some (.int x2), some (.int x3), some (.int x4), some (.int r)]) (st' := []) (M' := M) (P := True) 2 rfl trivial ?_
  exact h1
theorem sg_M_findPlan_37_136 {Q : Option Value → Mem → Prop} (M : Mem) (x1 x2 x3 r : Int32)
    (h1 : ¬ r = 0 → x3 = 0 → 0 = 0 → WX mi_M_findPlan 5 Q 249 [some (.ref 37), some (.int x1), some (.int x2), some (.int x3), some (.int 0), some (.int 0)] [] M)
    (h2 : ¬ r = 0 → x3 = 0 → ¬ 0 = 0 → WX mi_M_lowest 1 (fun rv M' => WX mi_M_findPlan 5 Q 243 [some (.ref 37), some (.int x1), some (.int x2), some (.int x3), some (.int 0), none] (rv.toList ++ []) M') 0 [some (.ref 37), some (.int x3), none] [] M)
    (h3 : ¬ r = 0 → ¬ x3 = 0 → (M.1 37 26) = (-9) → 1 = 0 → WX mi_M_findPlan 5 Q 249 [some (.ref 37), some (.int x1), some (.int x2), some (.int x3), some (.int 1), some (.int 0)] [] M)
    (h4 : ¬ r = 0 → ¬ x3 = 0 → (M.1 37 26) = (-9) → ¬ 1 = 0 → WX mi_M_lowest 1 (fun rv M' => WX mi_M_findPlan 5 Q 243 [some (.ref 37), some (.int x1), some (.int x2), some (.int x3), some (.int 1), none] (rv.toList ++ []) M') 0 [some (.ref 37), some (.int x3), none] [] M)
    (h5 : ¬ r = 0 → ¬ x3 = 0 → ¬ (M.1 37 26) = (-9) → (M.1 37 26) ≤ (x1 + 1) → 0 = 0 → WX mi_M_findPlan 5 Q 249 [some (.ref 37), some (.int x1), some (.int x2), some (.int x3), some (.int 0), some (.int 0)] [] M)
    (h6 : ¬ r = 0 → ¬ x3 = 0 → ¬ (M.1 37 26) = (-9) → (M.1 37 26) ≤ (x1 + 1) → ¬ 0 = 0 → WX mi_M_lowest 1 (fun rv M' => WX mi_M_findPlan 5 Q 243 [some (.ref 37), some (.int x1), some (.int x2), some (.int x3), some (.int 0), none] (rv.toList ++ []) M') 0 [some (.ref 37), some (.int x3), none] [] M)
    (h7 : ¬ r = 0 → ¬ x3 = 0 → ¬ (M.1 37 26) = (-9) → ¬ (M.1 37 26) ≤ (x1 + 1) → 1 = 0 → WX mi_M_findPlan 5 Q 249 [some (.ref 37), some (.int x1), some (.int x2), some (.int x3), some (.int 1), some (.int 0)] [] M)
    (h8 : ¬ r = 0 → ¬ x3 = 0 → ¬ (M.1 37 26) = (-9) → ¬ (M.1 37 26) ≤ (x1 + 1) → ¬ 1 = 0 → WX mi_M_lowest 1 (fun rv M' => WX mi_M_findPlan 5 Q 243 [some (.ref 37), some (.int x1), some (.int x2), some (.int x3), some (.int 1), none] (rv.toList ++ []) M') 0 [some (.ref 37), some (.int x3), none] [] M)
    (h9 : r = 0 → WX mi_M_findPlan 5 Q 147 [some (.ref 37), some (.int x1), some (.int x2), some (.int x3), some (.int 0), none] [] (wr M 37 26 x1)) :
    WX mi_M_findPlan 5 Q 136 [some (.ref 37), some (.int x1), some (.int x2), some (.int x3), none, none] [.int r] M := by
  refine WX.if_ne (off := 67) (tgt := 203) rfl rfl (fun c1 => ?_) (fun c1 => ?_)
  · refine WX.run (pc' := 204) (L' := [some (.ref 37), some (.int x1), some (.int x2), some (.int x3), none, none]) (st' := [.int x3]) (M' := M) (P := True) 1 rfl trivial ?_
    refine WX.if_eq (off := 26) (tgt := 230) rfl rfl (fun c2 => ?_) (fun c2 => ?_)
    · refine WX.run (pc' := 235) (L' := [some (.ref 37), some (.int x1), some (.int x2), some (.int x3), some (.int 0), none]) (st' := [.int 0]) (M' := M) (P := True) 3 rfl trivial ?_
      refine WX.if_eq (off := 11) (tgt := 246) rfl rfl (fun c3 => ?_) (fun c3 => ?_)
      · refine WX.run (pc' := 249) (L' := [some (.ref 37), some (.int x1), some (.int x2), some (.int x3), some (.int 0), some (.int 0)]) (st' := []) (M' := M) (P := True) 2 rfl trivial ?_
        exact (h1 c1 c2 c3)
      · refine WX.run (pc' := 240) (L' := [some (.ref 37), some (.int x1), some (.int x2), some (.int x3), some (.int 0), none]) (st' := [.int x3, .ref 37]) (M' := M) (P := True) 2 rfl trivial ?_
        refine WX.callV (ca := mi_M_lowest) (n := 1) (d' := 1) (st := []) (As := [.int x3]) (q := 37) rfl lk_7_212 ck_M_lowest cv_M_lowest rfl (by decide) rfl (by decide) ⟨by decide, rfl, by decide⟩ (by intro w hw; simp only [List.mem_cons, List.not_mem_nil, or_false] at hw; rcases hw with rfl <;> rfl) (by decide) ?_
        exact (h2 c1 c2 c3)
    · refine WX.run (pc' := 213) (L' := [some (.ref 37), some (.int x1), some (.int x2), some (.int x3), none, none]) (st' := [.int (-9), .int (M.1 37 26)]) (M' := M) (P := True) 3 rfl trivial ?_
      refine WX.icmp_eq (off := 13) (tgt := 226) rfl rfl (fun c4 => ?_) (fun c4 => ?_)
      · refine WX.run (pc' := 235) (L' := [some (.ref 37), some (.int x1), some (.int x2), some (.int x3), some (.int 1), none]) (st' := [.int 1]) (M' := M) (P := True) 4 rfl trivial ?_
        refine WX.if_eq (off := 11) (tgt := 246) rfl rfl (fun c5 => ?_) (fun c5 => ?_)
        · refine WX.run (pc' := 249) (L' := [some (.ref 37), some (.int x1), some (.int x2), some (.int x3), some (.int 1), some (.int 0)]) (st' := []) (M' := M) (P := True) 2 rfl trivial ?_
          exact (h3 c1 c2 c4 c5)
        · refine WX.run (pc' := 240) (L' := [some (.ref 37), some (.int x1), some (.int x2), some (.int x3), some (.int 1), none]) (st' := [.int x3, .ref 37]) (M' := M) (P := True) 2 rfl trivial ?_
          refine WX.callV (ca := mi_M_lowest) (n := 1) (d' := 1) (st := []) (As := [.int x3]) (q := 37) rfl lk_7_212 ck_M_lowest cv_M_lowest rfl (by decide) rfl (by decide) ⟨by decide, rfl, by decide⟩ (by intro w hw; simp only [List.mem_cons, List.not_mem_nil, or_false] at hw; rcases hw with rfl <;> rfl) (by decide) ?_
          exact (h4 c1 c2 c4 c5)
      · refine WX.run (pc' := 223) (L' := [some (.ref 37), some (.int x1), some (.int x2), some (.int x3), none, none]) (st' := [.int (M.1 37 26), .int (x1 + 1)]) (M' := M) (P := True) 5 rfl trivial ?_
        refine WX.icmp_ge (off := 7) (tgt := 230) rfl rfl (fun c6 => ?_) (fun c6 => ?_)
        · refine WX.run (pc' := 235) (L' := [some (.ref 37), some (.int x1), some (.int x2), some (.int x3), some (.int 0), none]) (st' := [.int 0]) (M' := M) (P := True) 3 rfl trivial ?_
          refine WX.if_eq (off := 11) (tgt := 246) rfl rfl (fun c7 => ?_) (fun c7 => ?_)
          · refine WX.run (pc' := 249) (L' := [some (.ref 37), some (.int x1), some (.int x2), some (.int x3), some (.int 0), some (.int 0)]) (st' := []) (M' := M) (P := True) 2 rfl trivial ?_
            exact (h5 c1 c2 c4 c6 c7)
          · refine WX.run (pc' := 240) (L' := [some (.ref 37), some (.int x1), some (.int x2), some (.int x3), some (.int 0), none]) (st' := [.int x3, .ref 37]) (M' := M) (P := True) 2 rfl trivial ?_
            refine WX.callV (ca := mi_M_lowest) (n := 1) (d' := 1) (st := []) (As := [.int x3]) (q := 37) rfl lk_7_212 ck_M_lowest cv_M_lowest rfl (by decide) rfl (by decide) ⟨by decide, rfl, by decide⟩ (by intro w hw; simp only [List.mem_cons, List.not_mem_nil, or_false] at hw; rcases hw with rfl <;> rfl) (by decide) ?_
            exact (h6 c1 c2 c4 c6 c7)
        · refine WX.run (pc' := 235) (L' := [some (.ref 37), some (.int x1), some (.int x2), some (.int x3), some (.int 1), none]) (st' := [.int 1]) (M' := M) (P := True) 4 rfl trivial ?_
          refine WX.if_eq (off := 11) (tgt := 246) rfl rfl (fun c8 => ?_) (fun c8 => ?_)
          · refine WX.run (pc' := 249) (L' := [some (.ref 37), some (.int x1), some (.int x2), some (.int x3), some (.int 1), some (.int 0)]) (st' := []) (M' := M) (P := True) 2 rfl trivial ?_
            exact (h7 c1 c2 c4 c6 c8)
          · refine WX.run (pc' := 240) (L' := [some (.ref 37), some (.int x1), some (.int x2), some (.int x3), some (.int 1), none]) (st' := [.int x3, .ref 37]) (M' := M) (P := True) 2 rfl trivial ?_
            refine WX.callV (ca := mi_M_lowest) (n := 1) (d' := 1) (st := []) (As := [.int x3]) (q := 37) rfl lk_7_212 ck_M_lowest cv_M_lowest rfl (by decide) rfl (by decide) ⟨by decide, rfl, by decide⟩ (by intro w hw; simp only [List.mem_cons, List.not_mem_nil, or_false] at hw; rcases hw with rfl <;> rfl) (by decide) ?_
            exact (h8 c1 c2 c4 c6 c8)
  · refine WX.run (pc' := 147) (L' := [some (.ref 37), some (.int x1), some (.int x2), some (.int x3), some (.int 0), none]) (st' := []) (M' := (wr M 37 26 x1)) (P := True) 5 rfl trivial ?_
    exact (h9 c1)
theorem sg_M_findPlan_37_391 {Q : Option Value → Mem → Prop} (M : Mem) (x1 x2 x3 x4 x5 r s1 : Int32)
    (h1 : WX mi_M_put 1 (fun rv M' => WX mi_M_findPlan 5 Q 396 [some (.ref 37), some (.int x1), some (.int x2), some (.int x3), some (.int x4), some (.int x5)] (rv.toList ++ []) M') 0 [some (.ref 49), some (.int s1), some (.int r), some (.int (-9)), none] [] M) :
    WX mi_M_findPlan 5 Q 391 [some (.ref 37), some (.int x1), some (.int x2), some (.int x3), some (.int x4), some (.int x5)] [.int r, .int s1, .ref 49] M := by
  refine WX.run (pc' := 393) (L' := [some (.ref 37), some (.int x1), some (.int x2), some (.int x3), some (.int x4), some (.int x5)]) (st' := [.int (-9), .int r, .int s1, .ref 49]) (M' := M) (P := True) 1 rfl trivial ?_
  refine WX.callS (ca := mi_M_put) (n := 4) (d' := 1) (st := []) (As := [.ref 49, .int s1, .int r, .int (-9)]) rfl lk_7_161 ck_M_put cs_M_put rfl (by decide) rfl (by decide) (by intro w hw; simp only [List.mem_cons, List.not_mem_nil, or_false] at hw; rcases hw with rfl | rfl | rfl | rfl <;> rfl) (by decide) ?_
  exact h1
theorem sg_M_findPlan_37_320 {Q : Option Value → Mem → Prop} (M : Mem) (x1 x2 x3 x4 x5 r s1 : Int32)
    (h1 : WX mi_M_put 1 (fun rv M' => WX mi_M_findPlan 5 Q 330 [some (.ref 37), some (.int x1), some (.int x2), some (.int x3), some (.int x4), some (.int x5)] (rv.toList ++ []) M') 0 [some (.ref 49), some (.int s1), some (.int r), some (.int ((16 * x2) + x5)), none] [] M) :
    WX mi_M_findPlan 5 Q 320 [some (.ref 37), some (.int x1), some (.int x2), some (.int x3), some (.int x4), some (.int x5)] [.int r, .int s1, .ref 49] M := by
  refine WX.run (pc' := 327) (L' := [some (.ref 37), some (.int x1), some (.int x2), some (.int x3), some (.int x4), some (.int x5)]) (st' := [.int ((16 * x2) + x5), .int r, .int s1, .ref 49]) (M' := M) (P := True) 5 rfl trivial ?_
  refine WX.callS (ca := mi_M_put) (n := 4) (d' := 1) (st := []) (As := [.ref 49, .int s1, .int r, .int ((16 * x2) + x5)]) rfl lk_7_161 ck_M_put cs_M_put rfl (by decide) rfl (by decide) (by intro w hw; simp only [List.mem_cons, List.not_mem_nil, or_false] at hw; rcases hw with rfl | rfl | rfl | rfl <;> rfl) (by decide) ?_
  exact h1
theorem sg_M_findPlan_37_275 {Q : Option Value → Mem → Prop} (M : Mem) (x1 x2 x3 x4 x5 r : Int32)
    (h1 : r = 0 → WX mi_M_findPlan 5 Q 249 [some (.ref 37), some (.int x1), some (.int (x2 + 1)), some (.int x3), some (.int x4), some (.int x5)] [] M)
    (h2 : ¬ r = 0 → WX mi_M_cellsOf 3 (fun rv M' => WX mi_M_findPlan 5 Q 285 [some (.ref 37), some (.int x1), some (.int x2), some (.int x3), some (.int x4), some (.int x5)] (rv.toList ++ []) M') 0 [some (.ref 37), some (.int x2), some (.int x5), none, none, none, none] [] M) :
    WX mi_M_findPlan 5 Q 275 [some (.ref 37), some (.int x1), some (.int x2), some (.int x3), some (.int x4), some (.int x5)] [.int r] M := by
  refine WX.if_eq (off := 17) (tgt := 292) rfl rfl (fun c1 => ?_) (fun c1 => ?_)
  · refine WX.run (pc' := 249) (L' := [some (.ref 37), some (.int x1), some (.int (x2 + 1)), some (.int x3), some (.int x4), some (.int x5)]) (st' := []) (M' := M) (P := True) 2 rfl trivial ?_
    exact (h1 c1)
  · refine WX.run (pc' := 282) (L' := [some (.ref 37), some (.int x1), some (.int x2), some (.int x3), some (.int x4), some (.int x5)]) (st' := [.int x5, .int x2, .ref 37]) (M' := M) (P := True) 3 rfl trivial ?_
    refine WX.callV (ca := mi_M_cellsOf) (n := 2) (d' := 3) (st := []) (As := [.int x2, .int x5]) (q := 37) rfl lk_7_151 ck_M_cellsOf cv_M_cellsOf rfl (by decide) rfl (by decide) ⟨by decide, rfl, by decide⟩ (by intro w hw; simp only [List.mem_cons, List.not_mem_nil, or_false] at hw; rcases hw with rfl | rfl <;> rfl) (by decide) ?_
    exact (h2 c1)
theorem sg_M_findPlan_37_147 {Q : Option Value → Mem → Prop} (M : Mem) (x1 x2 x3 x4 : Int32)
    (h1 : 16 ≤ x4 → WX mi_M_findPlan 5 Q 172 [some (.ref 37), some (.int x1), some (.int x2), some (.int x3), some (.int 0), none] [] M)
    (b2 : ¬ 16 ≤ x4 → vp_in x4 16)
    (h3 : ¬ 16 ≤ x4 → WX mi_M_findPlan 5 Q 147 [some (.ref 37), some (.int x1), some (.int x2), some (.int x3), some (.int (x4 + 1)), none] [] (wr M 53 x4.toNatClampNeg (-9))) :
    WX mi_M_findPlan 5 Q 147 [some (.ref 37), some (.int x1), some (.int x2), some (.int x3), some (.int x4), none] [] M := by
  refine WX.run (pc' := 151) (L' := [some (.ref 37), some (.int x1), some (.int x2), some (.int x3), some (.int x4), none]) (st' := [.int 16, .int x4]) (M' := M) (P := True) 2 rfl trivial ?_
  refine WX.icmp_ge (off := 18) (tgt := 169) rfl rfl (fun c1 => ?_) (fun c1 => ?_)
  · refine WX.run (pc' := 172) (L' := [some (.ref 37), some (.int x1), some (.int x2), some (.int x3), some (.int 0), none]) (st' := []) (M' := M) (P := True) 2 rfl trivial ?_
    exact (h1 c1)
  · refine WX.run (pc' := 147) (L' := [some (.ref 37), some (.int x1), some (.int x2), some (.int x3), some (.int (x4 + 1)), none]) (st' := []) (M' := (wr M 53 x4.toNatClampNeg (-9))) (P := (True ∧ vp_in x4 16)) 7 rfl ⟨trivial, (b2 c1)⟩ ?_
    exact (h3 c1)
theorem sg_M_findPlan_37_396 {Q : Option Value → Mem → Prop} (M : Mem) (x1 x2 x3 x4 x5 : Int32)
    (b1 : vp_in x1 17)
    (b2 : vp_in (M.1 52 x1.toNatClampNeg) 4)
    (h3 : WX mi_M_findPlan 5 Q 92 [some (.ref 37), some (.int x1), some (.int ((M.1 52 x1.toNatClampNeg) + 1)), none, none, none] [] (wr M 50 (M.1 52 x1.toNatClampNeg).toNatClampNeg ((M.1 50 (M.1 52 x1.toNatClampNeg).toNatClampNeg) + 1))) :
    WX mi_M_findPlan 5 Q 396 [some (.ref 37), some (.int x1), some (.int x2), some (.int x3), some (.int x4), some (.int x5)] [] M := by
  refine WX.run (pc' := 92) (L' := [some (.ref 37), some (.int x1), some (.int ((M.1 52 x1.toNatClampNeg) + 1)), some (.int x3), some (.int x4), some (.int x5)]) (st' := []) (M' := (wr M 50 (M.1 52 x1.toNatClampNeg).toNatClampNeg ((M.1 50 (M.1 52 x1.toNatClampNeg).toNatClampNeg) + 1))) (P := ((((True ∧ vp_in x1 17) ∧ vp_in (M.1 52 x1.toNatClampNeg) 4) ∧ vp_in (M.1 52 x1.toNatClampNeg) 4) ∧ vp_in x1 17)) 19 rfl ⟨⟨⟨⟨trivial, b1⟩, b2⟩, b2⟩, b1⟩ ?_
  refine WX.forget2 (L' := [some (.ref 37), some (.int x1), some (.int ((M.1 52 x1.toNatClampNeg) + 1)), none, none, none]) ?_ ⟨Or.inr rfl, Or.inr rfl, Or.inr rfl, Or.inl rfl, Or.inl rfl, Or.inl rfl, trivial⟩
  exact h3
theorem sg_M_findPlan_37_330 {Q : Option Value → Mem → Prop} (M : Mem) (x1 x2 x3 x4 x5 : Int32)
    (b1 : vp_in x2 4)
    (b2 : vp_in x1 17)
    (h3 : WX mi_M_findPlan 5 Q 92 [some (.ref 37), some (.int (x1 + 1)), some (.int 0), none, none, none] [] (wr (wr (wr M 50 x2.toNatClampNeg ((M.1 50 x2.toNatClampNeg) - 1)) 51 x1.toNatClampNeg x5) 52 x1.toNatClampNeg x2)) :
    WX mi_M_findPlan 5 Q 330 [some (.ref 37), some (.int x1), some (.int x2), some (.int x3), some (.int x4), some (.int x5)] [] M := by
  refine WX.run (pc' := 92) (L' := [some (.ref 37), some (.int (x1 + 1)), some (.int 0), some (.int x3), some (.int x4), some (.int x5)]) (st' := []) (M' := (wr (wr (wr M 50 x2.toNatClampNeg ((M.1 50 x2.toNatClampNeg) - 1)) 51 x1.toNatClampNeg x5) 52 x1.toNatClampNeg x2)) (P := ((((True ∧ vp_in x2 4) ∧ vp_in x2 4) ∧ vp_in x1 17) ∧ vp_in x1 17)) 23 rfl ⟨⟨⟨⟨trivial, b1⟩, b1⟩, b2⟩, b2⟩ ?_
  refine WX.forget2 (L' := [some (.ref 37), some (.int (x1 + 1)), some (.int 0), none, none, none]) ?_ ⟨Or.inr rfl, Or.inr rfl, Or.inr rfl, Or.inl rfl, Or.inl rfl, Or.inl rfl, trivial⟩
  exact h3
theorem sg_M_findPlan_37_285 {Q : Option Value → Mem → Prop} (M : Mem) (x1 x2 x3 x4 x5 r : Int32)
    (h1 : (r &&& (x3 ^^^ (-1))) = 0 → x4 = 0 → (x1 + (-1)) < 0 → WX mi_M_findPlan 5 Q 92 [some (.ref 37), some (.int (x1 + (-1))), some (.int x2), none, none, none] [] M)
    (b2 : (r &&& (x3 ^^^ (-1))) = 0 → x4 = 0 → ¬ (x1 + (-1)) < 0 → vp_in (x1 + (-1)) 17)
    (h3 : (r &&& (x3 ^^^ (-1))) = 0 → x4 = 0 → ¬ (x1 + (-1)) < 0 → WX mi_M_cellsOf 3 (fun rv M' => WX mi_M_findPlan 5 Q 391 [some (.ref 37), some (.int (x1 + (-1))), some (.int x2), some (.int x3), some (.int x4), some (.int x5)] (rv.toList ++ [.int 0, .ref 49]) M') 0 [some (.ref 37), some (.int (M.1 52 (x1 + (-1)).toNatClampNeg)), some (.int (M.1 51 (x1 + (-1)).toNatClampNeg)), none, none, none, none] [] M)
    (h4 : (r &&& (x3 ^^^ (-1))) = 0 → ¬ x4 = 0 → 4 ≤ x2 → (x1 + (-1)) < 0 → WX mi_M_findPlan 5 Q 92 [some (.ref 37), some (.int (x1 + (-1))), some (.int x2), none, none, none] [] M)
    (b5 : (r &&& (x3 ^^^ (-1))) = 0 → ¬ x4 = 0 → 4 ≤ x2 → ¬ (x1 + (-1)) < 0 → vp_in (x1 + (-1)) 17)
    (h6 : (r &&& (x3 ^^^ (-1))) = 0 → ¬ x4 = 0 → 4 ≤ x2 → ¬ (x1 + (-1)) < 0 → WX mi_M_cellsOf 3 (fun rv M' => WX mi_M_findPlan 5 Q 391 [some (.ref 37), some (.int (x1 + (-1))), some (.int x2), some (.int x3), some (.int x4), some (.int x5)] (rv.toList ++ [.int 0, .ref 49]) M') 0 [some (.ref 37), some (.int (M.1 52 (x1 + (-1)).toNatClampNeg)), some (.int (M.1 51 (x1 + (-1)).toNatClampNeg)), none, none, none, none] [] M)
    (h7 : (r &&& (x3 ^^^ (-1))) = 0 → ¬ x4 = 0 → ¬ 4 ≤ x2 → WX mi_M_cellsOf 3 (fun rv M' => WX mi_M_findPlan 5 Q 320 [some (.ref 37), some (.int x1), some (.int x2), some (.int x3), some (.int x4), some (.int x5)] (rv.toList ++ [.int 0, .ref 49]) M') 0 [some (.ref 37), some (.int x2), some (.int x5), none, none, none, none] [] M)
    (h8 : ¬ (r &&& (x3 ^^^ (-1))) = 0 → WX mi_M_findPlan 5 Q 249 [some (.ref 37), some (.int x1), some (.int (x2 + 1)), some (.int x3), some (.int x4), some (.int x5)] [] M) :
    WX mi_M_findPlan 5 Q 285 [some (.ref 37), some (.int x1), some (.int x2), some (.int x3), some (.int x4), some (.int x5)] [.int r] M := by
  refine WX.run (pc' := 289) (L' := [some (.ref 37), some (.int x1), some (.int x2), some (.int x3), some (.int x4), some (.int x5)]) (st' := [.int (r &&& (x3 ^^^ (-1)))]) (M' := M) (P := True) 4 rfl trivial ?_
  refine WX.if_eq (off := 9) (tgt := 298) rfl rfl (fun c1 => ?_) (fun c1 => ?_)
  · refine WX.run (pc' := 300) (L' := [some (.ref 37), some (.int x1), some (.int x2), some (.int x3), some (.int x4), some (.int x5)]) (st' := [.int x4]) (M' := M) (P := True) 1 rfl trivial ?_
    refine WX.if_eq (off := 63) (tgt := 363) rfl rfl (fun c2 => ?_) (fun c2 => ?_)
    · refine WX.run (pc' := 367) (L' := [some (.ref 37), some (.int (x1 + (-1))), some (.int x2), some (.int x3), some (.int x4), some (.int x5)]) (st' := [.int (x1 + (-1))]) (M' := M) (P := True) 2 rfl trivial ?_
      refine WX.if_lt (off := 53) (tgt := 420) rfl rfl (fun c3 => ?_) (fun c3 => ?_)
      · refine WX.run (pc' := 92) (L' := [some (.ref 37), some (.int (x1 + (-1))), some (.int x2), some (.int x3), some (.int x4), some (.int x5)]) (st' := []) (M' := M) (P := True) 1 rfl trivial ?_
        refine WX.forget2 (L' := [some (.ref 37), some (.int (x1 + (-1))), some (.int x2), none, none, none]) ?_ ⟨Or.inr rfl, Or.inr rfl, Or.inr rfl, Or.inl rfl, Or.inl rfl, Or.inl rfl, trivial⟩
        exact (h1 c1 c2 c3)
      · refine WX.run (pc' := 388) (L' := [some (.ref 37), some (.int (x1 + (-1))), some (.int x2), some (.int x3), some (.int x4), some (.int x5)]) (st' := [.int (M.1 51 (x1 + (-1)).toNatClampNeg), .int (M.1 52 (x1 + (-1)).toNatClampNeg), .ref 37, .int 0, .ref 49]) (M' := M) (P := ((True ∧ vp_in (x1 + (-1)) 17) ∧ vp_in (x1 + (-1)) 17)) 12 rfl ⟨⟨trivial, (b2 c1 c2 c3)⟩, (b2 c1 c2 c3)⟩ ?_
        refine WX.callV (ca := mi_M_cellsOf) (n := 2) (d' := 3) (st := [.int 0, .ref 49]) (As := [.int (M.1 52 (x1 + (-1)).toNatClampNeg), .int (M.1 51 (x1 + (-1)).toNatClampNeg)]) (q := 37) rfl lk_7_151 ck_M_cellsOf cv_M_cellsOf rfl (by decide) rfl (by decide) ⟨by decide, rfl, by decide⟩ (by intro w hw; simp only [List.mem_cons, List.not_mem_nil, or_false] at hw; rcases hw with rfl | rfl <;> rfl) (by decide) ?_
        exact (h3 c1 c2 c3)
    · refine WX.run (pc' := 305) (L' := [some (.ref 37), some (.int x1), some (.int x2), some (.int x3), some (.int x4), some (.int x5)]) (st' := [.int 4, .int x2]) (M' := M) (P := True) 2 rfl trivial ?_
      refine WX.icmp_ge (off := 58) (tgt := 363) rfl rfl (fun c4 => ?_) (fun c4 => ?_)
      · refine WX.run (pc' := 367) (L' := [some (.ref 37), some (.int (x1 + (-1))), some (.int x2), some (.int x3), some (.int x4), some (.int x5)]) (st' := [.int (x1 + (-1))]) (M' := M) (P := True) 2 rfl trivial ?_
        refine WX.if_lt (off := 53) (tgt := 420) rfl rfl (fun c5 => ?_) (fun c5 => ?_)
        · refine WX.run (pc' := 92) (L' := [some (.ref 37), some (.int (x1 + (-1))), some (.int x2), some (.int x3), some (.int x4), some (.int x5)]) (st' := []) (M' := M) (P := True) 1 rfl trivial ?_
          refine WX.forget2 (L' := [some (.ref 37), some (.int (x1 + (-1))), some (.int x2), none, none, none]) ?_ ⟨Or.inr rfl, Or.inr rfl, Or.inr rfl, Or.inl rfl, Or.inl rfl, Or.inl rfl, trivial⟩
          exact (h4 c1 c2 c4 c5)
        · refine WX.run (pc' := 388) (L' := [some (.ref 37), some (.int (x1 + (-1))), some (.int x2), some (.int x3), some (.int x4), some (.int x5)]) (st' := [.int (M.1 51 (x1 + (-1)).toNatClampNeg), .int (M.1 52 (x1 + (-1)).toNatClampNeg), .ref 37, .int 0, .ref 49]) (M' := M) (P := ((True ∧ vp_in (x1 + (-1)) 17) ∧ vp_in (x1 + (-1)) 17)) 12 rfl ⟨⟨trivial, (b5 c1 c2 c4 c5)⟩, (b5 c1 c2 c4 c5)⟩ ?_
          refine WX.callV (ca := mi_M_cellsOf) (n := 2) (d' := 3) (st := [.int 0, .ref 49]) (As := [.int (M.1 52 (x1 + (-1)).toNatClampNeg), .int (M.1 51 (x1 + (-1)).toNatClampNeg)]) (q := 37) rfl lk_7_151 ck_M_cellsOf cv_M_cellsOf rfl (by decide) rfl (by decide) ⟨by decide, rfl, by decide⟩ (by intro w hw; simp only [List.mem_cons, List.not_mem_nil, or_false] at hw; rcases hw with rfl | rfl <;> rfl) (by decide) ?_
          exact (h6 c1 c2 c4 c5)
      · refine WX.run (pc' := 317) (L' := [some (.ref 37), some (.int x1), some (.int x2), some (.int x3), some (.int x4), some (.int x5)]) (st' := [.int x5, .int x2, .ref 37, .int 0, .ref 49]) (M' := M) (P := True) 6 rfl trivial ?_
        refine WX.callV (ca := mi_M_cellsOf) (n := 2) (d' := 3) (st := [.int 0, .ref 49]) (As := [.int x2, .int x5]) (q := 37) rfl lk_7_151 ck_M_cellsOf cv_M_cellsOf rfl (by decide) rfl (by decide) ⟨by decide, rfl, by decide⟩ (by intro w hw; simp only [List.mem_cons, List.not_mem_nil, or_false] at hw; rcases hw with rfl | rfl <;> rfl) (by decide) ?_
        exact (h7 c1 c2 c4)
  · refine WX.run (pc' := 249) (L' := [some (.ref 37), some (.int x1), some (.int (x2 + 1)), some (.int x3), some (.int x4), some (.int x5)]) (st' := []) (M' := M) (P := True) 2 rfl trivial ?_
    exact (h8 c1)
theorem sg_M_findPlan_37_172 {Q : Option Value → Mem → Prop} (M : Mem) (x1 x2 x3 x4 : Int32)
    (h1 : x1 ≤ x4 → x3 = 0 → 0 = 0 → WX mi_M_findPlan 5 Q 249 [some (.ref 37), some (.int x1), some (.int x2), some (.int x3), some (.int 0), some (.int 0)] [] M)
    (h2 : x1 ≤ x4 → x3 = 0 → ¬ 0 = 0 → WX mi_M_lowest 1 (fun rv M' => WX mi_M_findPlan 5 Q 243 [some (.ref 37), some (.int x1), some (.int x2), some (.int x3), some (.int 0), none] (rv.toList ++ []) M') 0 [some (.ref 37), some (.int x3), none] [] M)
    (h3 : x1 ≤ x4 → ¬ x3 = 0 → (M.1 37 26) = (-9) → 1 = 0 → WX mi_M_findPlan 5 Q 249 [some (.ref 37), some (.int x1), some (.int x2), some (.int x3), some (.int 1), some (.int 0)] [] M)
    (h4 : x1 ≤ x4 → ¬ x3 = 0 → (M.1 37 26) = (-9) → ¬ 1 = 0 → WX mi_M_lowest 1 (fun rv M' => WX mi_M_findPlan 5 Q 243 [some (.ref 37), some (.int x1), some (.int x2), some (.int x3), some (.int 1), none] (rv.toList ++ []) M') 0 [some (.ref 37), some (.int x3), none] [] M)
    (h5 : x1 ≤ x4 → ¬ x3 = 0 → ¬ (M.1 37 26) = (-9) → (M.1 37 26) ≤ (x1 + 1) → 0 = 0 → WX mi_M_findPlan 5 Q 249 [some (.ref 37), some (.int x1), some (.int x2), some (.int x3), some (.int 0), some (.int 0)] [] M)
    (h6 : x1 ≤ x4 → ¬ x3 = 0 → ¬ (M.1 37 26) = (-9) → (M.1 37 26) ≤ (x1 + 1) → ¬ 0 = 0 → WX mi_M_lowest 1 (fun rv M' => WX mi_M_findPlan 5 Q 243 [some (.ref 37), some (.int x1), some (.int x2), some (.int x3), some (.int 0), none] (rv.toList ++ []) M') 0 [some (.ref 37), some (.int x3), none] [] M)
    (h7 : x1 ≤ x4 → ¬ x3 = 0 → ¬ (M.1 37 26) = (-9) → ¬ (M.1 37 26) ≤ (x1 + 1) → 1 = 0 → WX mi_M_findPlan 5 Q 249 [some (.ref 37), some (.int x1), some (.int x2), some (.int x3), some (.int 1), some (.int 0)] [] M)
    (h8 : x1 ≤ x4 → ¬ x3 = 0 → ¬ (M.1 37 26) = (-9) → ¬ (M.1 37 26) ≤ (x1 + 1) → ¬ 1 = 0 → WX mi_M_lowest 1 (fun rv M' => WX mi_M_findPlan 5 Q 243 [some (.ref 37), some (.int x1), some (.int x2), some (.int x3), some (.int 1), none] (rv.toList ++ []) M') 0 [some (.ref 37), some (.int x3), none] [] M)
    (b9 : ¬ x1 ≤ x4 → vp_in x4 17)
    (b10 : ¬ x1 ≤ x4 → vp_in (M.1 51 x4.toNatClampNeg) 16)
    (h11 : ¬ x1 ≤ x4 → WX mi_M_findPlan 5 Q 172 [some (.ref 37), some (.int x1), some (.int x2), some (.int x3), some (.int (x4 + 1)), none] [] (wr M 53 (M.1 51 x4.toNatClampNeg).toNatClampNeg (M.1 52 x4.toNatClampNeg))) :
    WX mi_M_findPlan 5 Q 172 [some (.ref 37), some (.int x1), some (.int x2), some (.int x3), some (.int x4), none] [] M := by
  refine WX.run (pc' := 175) (L' := [some (.ref 37), some (.int x1), some (.int x2), some (.int x3), some (.int x4), none]) (st' := [.int x1, .int x4]) (M' := M) (P := True) 2 rfl trivial ?_
  refine WX.icmp_ge (off := 28) (tgt := 203) rfl rfl (fun c1 => ?_) (fun c1 => ?_)
  · refine WX.run (pc' := 204) (L' := [some (.ref 37), some (.int x1), some (.int x2), some (.int x3), some (.int x4), none]) (st' := [.int x3]) (M' := M) (P := True) 1 rfl trivial ?_
    refine WX.if_eq (off := 26) (tgt := 230) rfl rfl (fun c2 => ?_) (fun c2 => ?_)
    · refine WX.run (pc' := 235) (L' := [some (.ref 37), some (.int x1), some (.int x2), some (.int x3), some (.int 0), none]) (st' := [.int 0]) (M' := M) (P := True) 3 rfl trivial ?_
      refine WX.if_eq (off := 11) (tgt := 246) rfl rfl (fun c3 => ?_) (fun c3 => ?_)
      · refine WX.run (pc' := 249) (L' := [some (.ref 37), some (.int x1), some (.int x2), some (.int x3), some (.int 0), some (.int 0)]) (st' := []) (M' := M) (P := True) 2 rfl trivial ?_
        exact (h1 c1 c2 c3)
      · refine WX.run (pc' := 240) (L' := [some (.ref 37), some (.int x1), some (.int x2), some (.int x3), some (.int 0), none]) (st' := [.int x3, .ref 37]) (M' := M) (P := True) 2 rfl trivial ?_
        refine WX.callV (ca := mi_M_lowest) (n := 1) (d' := 1) (st := []) (As := [.int x3]) (q := 37) rfl lk_7_212 ck_M_lowest cv_M_lowest rfl (by decide) rfl (by decide) ⟨by decide, rfl, by decide⟩ (by intro w hw; simp only [List.mem_cons, List.not_mem_nil, or_false] at hw; rcases hw with rfl <;> rfl) (by decide) ?_
        exact (h2 c1 c2 c3)
    · refine WX.run (pc' := 213) (L' := [some (.ref 37), some (.int x1), some (.int x2), some (.int x3), some (.int x4), none]) (st' := [.int (-9), .int (M.1 37 26)]) (M' := M) (P := True) 3 rfl trivial ?_
      refine WX.icmp_eq (off := 13) (tgt := 226) rfl rfl (fun c4 => ?_) (fun c4 => ?_)
      · refine WX.run (pc' := 235) (L' := [some (.ref 37), some (.int x1), some (.int x2), some (.int x3), some (.int 1), none]) (st' := [.int 1]) (M' := M) (P := True) 4 rfl trivial ?_
        refine WX.if_eq (off := 11) (tgt := 246) rfl rfl (fun c5 => ?_) (fun c5 => ?_)
        · refine WX.run (pc' := 249) (L' := [some (.ref 37), some (.int x1), some (.int x2), some (.int x3), some (.int 1), some (.int 0)]) (st' := []) (M' := M) (P := True) 2 rfl trivial ?_
          exact (h3 c1 c2 c4 c5)
        · refine WX.run (pc' := 240) (L' := [some (.ref 37), some (.int x1), some (.int x2), some (.int x3), some (.int 1), none]) (st' := [.int x3, .ref 37]) (M' := M) (P := True) 2 rfl trivial ?_
          refine WX.callV (ca := mi_M_lowest) (n := 1) (d' := 1) (st := []) (As := [.int x3]) (q := 37) rfl lk_7_212 ck_M_lowest cv_M_lowest rfl (by decide) rfl (by decide) ⟨by decide, rfl, by decide⟩ (by intro w hw; simp only [List.mem_cons, List.not_mem_nil, or_false] at hw; rcases hw with rfl <;> rfl) (by decide) ?_
          exact (h4 c1 c2 c4 c5)
      · refine WX.run (pc' := 223) (L' := [some (.ref 37), some (.int x1), some (.int x2), some (.int x3), some (.int x4), none]) (st' := [.int (M.1 37 26), .int (x1 + 1)]) (M' := M) (P := True) 5 rfl trivial ?_
        refine WX.icmp_ge (off := 7) (tgt := 230) rfl rfl (fun c6 => ?_) (fun c6 => ?_)
        · refine WX.run (pc' := 235) (L' := [some (.ref 37), some (.int x1), some (.int x2), some (.int x3), some (.int 0), none]) (st' := [.int 0]) (M' := M) (P := True) 3 rfl trivial ?_
          refine WX.if_eq (off := 11) (tgt := 246) rfl rfl (fun c7 => ?_) (fun c7 => ?_)
          · refine WX.run (pc' := 249) (L' := [some (.ref 37), some (.int x1), some (.int x2), some (.int x3), some (.int 0), some (.int 0)]) (st' := []) (M' := M) (P := True) 2 rfl trivial ?_
            exact (h5 c1 c2 c4 c6 c7)
          · refine WX.run (pc' := 240) (L' := [some (.ref 37), some (.int x1), some (.int x2), some (.int x3), some (.int 0), none]) (st' := [.int x3, .ref 37]) (M' := M) (P := True) 2 rfl trivial ?_
            refine WX.callV (ca := mi_M_lowest) (n := 1) (d' := 1) (st := []) (As := [.int x3]) (q := 37) rfl lk_7_212 ck_M_lowest cv_M_lowest rfl (by decide) rfl (by decide) ⟨by decide, rfl, by decide⟩ (by intro w hw; simp only [List.mem_cons, List.not_mem_nil, or_false] at hw; rcases hw with rfl <;> rfl) (by decide) ?_
            exact (h6 c1 c2 c4 c6 c7)
        · refine WX.run (pc' := 235) (L' := [some (.ref 37), some (.int x1), some (.int x2), some (.int x3), some (.int 1), none]) (st' := [.int 1]) (M' := M) (P := True) 4 rfl trivial ?_
          refine WX.if_eq (off := 11) (tgt := 246) rfl rfl (fun c8 => ?_) (fun c8 => ?_)
          · refine WX.run (pc' := 249) (L' := [some (.ref 37), some (.int x1), some (.int x2), some (.int x3), some (.int 1), some (.int 0)]) (st' := []) (M' := M) (P := True) 2 rfl trivial ?_
            exact (h7 c1 c2 c4 c6 c8)
          · refine WX.run (pc' := 240) (L' := [some (.ref 37), some (.int x1), some (.int x2), some (.int x3), some (.int 1), none]) (st' := [.int x3, .ref 37]) (M' := M) (P := True) 2 rfl trivial ?_
            refine WX.callV (ca := mi_M_lowest) (n := 1) (d' := 1) (st := []) (As := [.int x3]) (q := 37) rfl lk_7_212 ck_M_lowest cv_M_lowest rfl (by decide) rfl (by decide) ⟨by decide, rfl, by decide⟩ (by intro w hw; simp only [List.mem_cons, List.not_mem_nil, or_false] at hw; rcases hw with rfl <;> rfl) (by decide) ?_
            exact (h8 c1 c2 c4 c6 c8)
  · refine WX.run (pc' := 172) (L' := [some (.ref 37), some (.int x1), some (.int x2), some (.int x3), some (.int (x4 + 1)), none]) (st' := []) (M' := (wr M 53 (M.1 51 x4.toNatClampNeg).toNatClampNeg (M.1 52 x4.toNatClampNeg))) (P := (((True ∧ vp_in x4 17) ∧ vp_in x4 17) ∧ vp_in (M.1 51 x4.toNatClampNeg) 16)) 13 rfl ⟨⟨⟨trivial, (b9 c1)⟩, (b9 c1)⟩, (b10 c1)⟩ ?_
    exact (h11 c1)
theorem sg_M_type_37_0 {Q : Option Value → Mem → Prop} (M : Mem) (x1 : Int32)
    (b1 : ¬ (z_M_in x1 0 255) = 0 → ¬ (M.1 37 2) = 150 → vp_in (M.1 37 2) 150)
    (h2 : ¬ (z_M_in x1 0 255) = 0 → ¬ (M.1 37 2) = 150 → Q (some (.int ((M.1 37 2) + 1))) (wr (wr M 38 (M.1 37 2).toNatClampNeg (vp_nar .byte (x1).toInt8.toInt32)) 37 2 ((M.1 37 2) + 1)))
    (h3 : ¬ (z_M_in x1 0 255) = 0 → (M.1 37 2) = 150 → Q (some (.int (-3))) M)
    (h4 : (z_M_in x1 0 255) = 0 → Q (some (.int (-1))) M) :
    WX mi_M_type 2 Q 0 [some (.ref 37), some (.int x1)] [] M := by
  refine WX.run (pc' := 5) (L' := [some (.ref 37), some (.int x1)]) (st' := [.int 255, .int 0, .int x1]) (M' := M) (P := True) 3 rfl trivial ?_
  refine WX.callS (ca := mi_M_in) (n := 3) (d' := 1) (st := []) (As := [.int x1, .int 0, .int 255]) rfl lk_7_72 ck_M_in cs_M_in rfl (by decide) rfl (by decide) (by intro w hw; simp only [List.mem_cons, List.not_mem_nil, or_false] at hw; rcases hw with rfl | rfl | rfl <;> rfl) (by decide) ?_
  refine wx_M_in M x1 0 255 ?_
  show WX mi_M_type 2 Q 8 [some (.ref 37), some (.int x1)] [.int (z_M_in x1 0 255)] M
  refine WX.if_ne (off := 5) (tgt := 13) rfl rfl (fun c1 => ?_) (fun c1 => ?_)
  · refine WX.run (pc' := 20) (L' := [some (.ref 37), some (.int x1)]) (st' := [.int 150, .int (M.1 37 2)]) (M' := M) (P := True) 3 rfl trivial ?_
    refine WX.icmp_ne (off := 6) (tgt := 26) rfl rfl (fun c2 => ?_) (fun c2 => ?_)
    · refine WX.run (pc' := 51) (L' := [some (.ref 37), some (.int x1)]) (st' := [.int ((M.1 37 2) + 1)]) (M' := (wr (wr M 38 (M.1 37 2).toNatClampNeg (vp_nar .byte (x1).toInt8.toInt32)) 37 2 ((M.1 37 2) + 1))) (P := (True ∧ vp_in (M.1 37 2) 150)) 15 rfl ⟨trivial, (b1 c1 c2)⟩ ?_
      exact WX.iret rfl rfl (h2 c1 c2)
    · refine WX.run (pc' := 25) (L' := [some (.ref 37), some (.int x1)]) (st' := [.int (-3)]) (M' := M) (P := True) 1 rfl trivial ?_
      exact WX.iret rfl rfl (h3 c1 c2)
  · refine WX.run (pc' := 12) (L' := [some (.ref 37), some (.int x1)]) (st' := [.int (-1)]) (M' := M) (P := True) 1 rfl trivial ?_
    exact WX.iret rfl rfl (h4 c1)
theorem sg_M_clear_37_0 {Q : Option Value → Mem → Prop} (M : Mem)
    (h1 : Q (some (.int (M.1 37 2))) (wr M 37 2 0)) :
    WX mi_M_clear 1 Q 0 [some (.ref 37), none] [] M := by
  refine WX.run (pc' := 11) (L' := [some (.ref 37), some (.int (M.1 37 2))]) (st' := [.int (M.1 37 2)]) (M' := (wr M 37 2 0)) (P := True) 7 rfl trivial ?_
  exact WX.iret rfl rfl h1
theorem sg_M_cell_37_0 {Q : Option Value → Mem → Prop} (M : Mem) (x1 x2 x3 : Int32)
    (b1 : ¬ (z_M_isCell_37 M x1 x2) = 0 → vp_in (16 + ((4 * x2) + x1)) 1257)
    (b2 : ¬ (z_M_isCell_37 M x1 x2) = 0 → x3 = 0 → vp_in ((4 * x2) + x1) 1257)
    (h3 : ¬ (z_M_isCell_37 M x1 x2) = 0 → x3 = 0 → Q (some (.int (M.1 46 ((4 * x2) + x1).toNatClampNeg))) M)
    (h4 : ¬ (z_M_isCell_37 M x1 x2) = 0 → ¬ x3 = 0 → x3 = 1 → (z_M_isLid_37 M ((4 * x2) + x1)) = 0 → (z_M_isDrain_37 M ((4 * x2) + x1)) = 0 → Q (some (.int 0)) M)
    (h5 : ¬ (z_M_isCell_37 M x1 x2) = 0 → ¬ x3 = 0 → x3 = 1 → (z_M_isLid_37 M ((4 * x2) + x1)) = 0 → ¬ (z_M_isDrain_37 M ((4 * x2) + x1)) = 0 → Q (some (.int 2)) M)
    (h6 : ¬ (z_M_isCell_37 M x1 x2) = 0 → ¬ x3 = 0 → x3 = 1 → ¬ (z_M_isLid_37 M ((4 * x2) + x1)) = 0 → Q (some (.int 1)) M)
    (h7 : ¬ (z_M_isCell_37 M x1 x2) = 0 → ¬ x3 = 0 → ¬ x3 = 1 → x3 = 2 → ¬ (M.1 46 (16 + ((4 * x2) + x1)).toNatClampNeg) = (-9) → Q (some (.int ((M.1 46 (16 + ((4 * x2) + x1)).toNatClampNeg) / 16))) M)
    (h8 : ¬ (z_M_isCell_37 M x1 x2) = 0 → ¬ x3 = 0 → ¬ x3 = 1 → x3 = 2 → (M.1 46 (16 + ((4 * x2) + x1)).toNatClampNeg) = (-9) → Q (some (.int (-9))) M)
    (h9 : ¬ (z_M_isCell_37 M x1 x2) = 0 → ¬ x3 = 0 → ¬ x3 = 1 → ¬ x3 = 2 → x3 = 3 → ¬ (M.1 46 (16 + ((4 * x2) + x1)).toNatClampNeg) = (-9) → Q (some (.int (rem (M.1 46 (16 + ((4 * x2) + x1)).toNatClampNeg) 16))) M)
    (h10 : ¬ (z_M_isCell_37 M x1 x2) = 0 → ¬ x3 = 0 → ¬ x3 = 1 → ¬ x3 = 2 → x3 = 3 → (M.1 46 (16 + ((4 * x2) + x1)).toNatClampNeg) = (-9) → Q (some (.int (-9))) M)
    (h11 : ¬ (z_M_isCell_37 M x1 x2) = 0 → ¬ x3 = 0 → ¬ x3 = 1 → ¬ x3 = 2 → ¬ x3 = 3 → x3 = 4 → Q (some (.int ((shr (M.1 46 36) ((4 * x2) + x1)) &&& 1))) M)
    (h12 : ¬ (z_M_isCell_37 M x1 x2) = 0 → ¬ x3 = 0 → ¬ x3 = 1 → ¬ x3 = 2 → ¬ x3 = 3 → ¬ x3 = 4 → Q (some (.int (-1))) M)
    (h13 : (z_M_isCell_37 M x1 x2) = 0 → Q (some (.int (-1))) M) :
    WX mi_M_cell 3 Q 0 [some (.ref 37), some (.int x1), some (.int x2), some (.int x3), none, none] [] M := by
  refine WX.run (pc' := 3) (L' := [some (.ref 37), some (.int x1), some (.int x2), some (.int x3), none, none]) (st' := [.int x2, .int x1, .ref 37]) (M' := M) (P := True) 3 rfl trivial ?_
  refine WX.callV (ca := mi_M_isCell) (n := 2) (d' := 2) (st := []) (As := [.int x1, .int x2]) (q := 37) rfl lk_7_131 ck_M_isCell cv_M_isCell rfl (by decide) rfl (by decide) ⟨by decide, rfl, by decide⟩ (by intro w hw; simp only [List.mem_cons, List.not_mem_nil, or_false] at hw; rcases hw with rfl | rfl <;> rfl) (by decide) ?_
  refine wx_M_isCell_37 M x1 x2 ?_
  show WX mi_M_cell 3 Q 6 [some (.ref 37), some (.int x1), some (.int x2), some (.int x3), none, none] [.int (z_M_isCell_37 M x1 x2)] M
  refine WX.if_ne (off := 5) (tgt := 11) rfl rfl (fun c1 => ?_) (fun c1 => ?_)
  · refine WX.run (pc' := 31) (L' := [some (.ref 37), some (.int x1), some (.int x2), some (.int x3), some (.int ((4 * x2) + x1)), some (.int (M.1 46 (16 + ((4 * x2) + x1)).toNatClampNeg))]) (st' := [.int x3]) (M' := M) (P := (True ∧ vp_in (16 + ((4 * x2) + x1)) 1257)) 14 rfl ⟨trivial, (b1 c1)⟩ ?_
    by_cases c2 : x3 = 0
    · refine WX.tsw (tgt := 64) rfl (by decide) (by rw [c2]; decide) ?_
      refine WX.run (pc' := 71) (L' := [some (.ref 37), some (.int x1), some (.int x2), some (.int x3), some (.int ((4 * x2) + x1)), some (.int (M.1 46 (16 + ((4 * x2) + x1)).toNatClampNeg))]) (st' := [.int (M.1 46 ((4 * x2) + x1).toNatClampNeg)]) (M' := M) (P := (True ∧ vp_in ((4 * x2) + x1) 1257)) 4 rfl ⟨trivial, (b2 c1 c2)⟩ ?_
      exact WX.iret rfl rfl (h3 c1 c2)
    · skip
      by_cases c3 : x3 = 1
      · refine WX.tsw (tgt := 72) rfl (by decide) (by rw [c3]; decide) ?_
        refine WX.run (pc' := 75) (L' := [some (.ref 37), some (.int x1), some (.int x2), some (.int x3), some (.int ((4 * x2) + x1)), some (.int (M.1 46 (16 + ((4 * x2) + x1)).toNatClampNeg))]) (st' := [.int ((4 * x2) + x1), .ref 37]) (M' := M) (P := True) 2 rfl trivial ?_
        refine WX.callV (ca := mi_M_isLid) (n := 1) (d' := 1) (st := []) (As := [.int ((4 * x2) + x1)]) (q := 37) rfl lk_7_134 ck_M_isLid cv_M_isLid rfl (by decide) rfl (by decide) ⟨by decide, rfl, by decide⟩ (by intro w hw; simp only [List.mem_cons, List.not_mem_nil, or_false] at hw; rcases hw with rfl <;> rfl) (by decide) ?_
        refine wx_M_isLid_37 M ((4 * x2) + x1) ?_
        show WX mi_M_cell 3 Q 78 [some (.ref 37), some (.int x1), some (.int x2), some (.int x3), some (.int ((4 * x2) + x1)), some (.int (M.1 46 (16 + ((4 * x2) + x1)).toNatClampNeg))] [.int (z_M_isLid_37 M ((4 * x2) + x1))] M
        refine WX.if_eq (off := 7) (tgt := 85) rfl rfl (fun c4 => ?_) (fun c4 => ?_)
        · refine WX.run (pc' := 88) (L' := [some (.ref 37), some (.int x1), some (.int x2), some (.int x3), some (.int ((4 * x2) + x1)), some (.int (M.1 46 (16 + ((4 * x2) + x1)).toNatClampNeg))]) (st' := [.int ((4 * x2) + x1), .ref 37]) (M' := M) (P := True) 2 rfl trivial ?_
          refine WX.callV (ca := mi_M_isDrain) (n := 1) (d' := 1) (st := []) (As := [.int ((4 * x2) + x1)]) (q := 37) rfl lk_7_138 ck_M_isDrain cv_M_isDrain rfl (by decide) rfl (by decide) ⟨by decide, rfl, by decide⟩ (by intro w hw; simp only [List.mem_cons, List.not_mem_nil, or_false] at hw; rcases hw with rfl <;> rfl) (by decide) ?_
          refine wx_M_isDrain_37 M ((4 * x2) + x1) ?_
          show WX mi_M_cell 3 Q 91 [some (.ref 37), some (.int x1), some (.int x2), some (.int x3), some (.int ((4 * x2) + x1)), some (.int (M.1 46 (16 + ((4 * x2) + x1)).toNatClampNeg))] [.int (z_M_isDrain_37 M ((4 * x2) + x1))] M
          refine WX.if_eq (off := 7) (tgt := 98) rfl rfl (fun c5 => ?_) (fun c5 => ?_)
          · refine WX.run (pc' := 99) (L' := [some (.ref 37), some (.int x1), some (.int x2), some (.int x3), some (.int ((4 * x2) + x1)), some (.int (M.1 46 (16 + ((4 * x2) + x1)).toNatClampNeg))]) (st' := [.int 0]) (M' := M) (P := True) 1 rfl trivial ?_
            exact WX.iret rfl rfl (h4 c1 c2 c3 c4 c5)
          · refine WX.run (pc' := 99) (L' := [some (.ref 37), some (.int x1), some (.int x2), some (.int x3), some (.int ((4 * x2) + x1)), some (.int (M.1 46 (16 + ((4 * x2) + x1)).toNatClampNeg))]) (st' := [.int 2]) (M' := M) (P := True) 2 rfl trivial ?_
            exact WX.iret rfl rfl (h5 c1 c2 c3 c4 c5)
        · refine WX.run (pc' := 99) (L' := [some (.ref 37), some (.int x1), some (.int x2), some (.int x3), some (.int ((4 * x2) + x1)), some (.int (M.1 46 (16 + ((4 * x2) + x1)).toNatClampNeg))]) (st' := [.int 1]) (M' := M) (P := True) 2 rfl trivial ?_
          exact WX.iret rfl rfl (h6 c1 c2 c3 c4)
      · skip
        by_cases c6 : x3 = 2
        · refine WX.tsw (tgt := 100) rfl (by decide) (by rw [c6]; decide) ?_
          refine WX.run (pc' := 104) (L' := [some (.ref 37), some (.int x1), some (.int x2), some (.int x3), some (.int ((4 * x2) + x1)), some (.int (M.1 46 (16 + ((4 * x2) + x1)).toNatClampNeg))]) (st' := [.int (-9), .int (M.1 46 (16 + ((4 * x2) + x1)).toNatClampNeg)]) (M' := M) (P := True) 2 rfl trivial ?_
          refine WX.icmp_ne (off := 8) (tgt := 112) rfl rfl (fun c7 => ?_) (fun c7 => ?_)
          · refine WX.run (pc' := 117) (L' := [some (.ref 37), some (.int x1), some (.int x2), some (.int x3), some (.int ((4 * x2) + x1)), some (.int (M.1 46 (16 + ((4 * x2) + x1)).toNatClampNeg))]) (st' := [.int ((M.1 46 (16 + ((4 * x2) + x1)).toNatClampNeg) / 16)]) (M' := M) (P := (True ∧ ¬ 16 = 0)) 3 rfl ⟨trivial, (by decide)⟩ ?_
            exact WX.iret rfl rfl (h7 c1 c2 c3 c6 c7)
          · refine WX.run (pc' := 117) (L' := [some (.ref 37), some (.int x1), some (.int x2), some (.int x3), some (.int ((4 * x2) + x1)), some (.int (M.1 46 (16 + ((4 * x2) + x1)).toNatClampNeg))]) (st' := [.int (-9)]) (M' := M) (P := True) 2 rfl trivial ?_
            exact WX.iret rfl rfl (h8 c1 c2 c3 c6 c7)
        · skip
          by_cases c8 : x3 = 3
          · refine WX.tsw (tgt := 118) rfl (by decide) (by rw [c8]; decide) ?_
            refine WX.run (pc' := 122) (L' := [some (.ref 37), some (.int x1), some (.int x2), some (.int x3), some (.int ((4 * x2) + x1)), some (.int (M.1 46 (16 + ((4 * x2) + x1)).toNatClampNeg))]) (st' := [.int (-9), .int (M.1 46 (16 + ((4 * x2) + x1)).toNatClampNeg)]) (M' := M) (P := True) 2 rfl trivial ?_
            refine WX.icmp_ne (off := 8) (tgt := 130) rfl rfl (fun c9 => ?_) (fun c9 => ?_)
            · refine WX.run (pc' := 135) (L' := [some (.ref 37), some (.int x1), some (.int x2), some (.int x3), some (.int ((4 * x2) + x1)), some (.int (M.1 46 (16 + ((4 * x2) + x1)).toNatClampNeg))]) (st' := [.int (rem (M.1 46 (16 + ((4 * x2) + x1)).toNatClampNeg) 16)]) (M' := M) (P := (True ∧ ¬ 16 = 0)) 3 rfl ⟨trivial, (by decide)⟩ ?_
              exact WX.iret rfl rfl (h9 c1 c2 c3 c6 c8 c9)
            · refine WX.run (pc' := 135) (L' := [some (.ref 37), some (.int x1), some (.int x2), some (.int x3), some (.int ((4 * x2) + x1)), some (.int (M.1 46 (16 + ((4 * x2) + x1)).toNatClampNeg))]) (st' := [.int (-9)]) (M' := M) (P := True) 2 rfl trivial ?_
              exact WX.iret rfl rfl (h10 c1 c2 c3 c6 c8 c9)
          · skip
            by_cases c10 : x3 = 4
            · refine WX.tsw (tgt := 136) rfl (by decide) (by rw [c10]; decide) ?_
              refine WX.run (pc' := 148) (L' := [some (.ref 37), some (.int x1), some (.int x2), some (.int x3), some (.int ((4 * x2) + x1)), some (.int (M.1 46 (16 + ((4 * x2) + x1)).toNatClampNeg))]) (st' := [.int ((shr (M.1 46 36) ((4 * x2) + x1)) &&& 1)]) (M' := M) (P := (True ∧ vp_in 36 1257)) 8 rfl ⟨trivial, (vp_lit rfl)⟩ ?_
              exact WX.iret rfl rfl (h11 c1 c2 c3 c6 c8 c10)
            · skip
              refine WX.tsw (tgt := 149) rfl (by decide) (by
                    by_cases hr : (x3).toInt < 0 ∨ 4 < (x3).toInt
                    · unfold tswo; rw [if_pos hr]; rfl
                    · have hh : (x3).toInt = 0 ∨ (x3).toInt = 1 ∨ (x3).toInt = 2 ∨ (x3).toInt = 3 ∨ (x3).toInt = 4 := by omega
                      rcases hh with hh | hh | hh | hh | hh
                      · exact absurd hh (i32_ne c2 (by decide))
                      · exact absurd hh (i32_ne c3 (by decide))
                      · exact absurd hh (i32_ne c6 (by decide))
                      · exact absurd hh (i32_ne c8 (by decide))
                      · exact absurd hh (i32_ne c10 (by decide))) ?_
              refine WX.run (pc' := 150) (L' := [some (.ref 37), some (.int x1), some (.int x2), some (.int x3), some (.int ((4 * x2) + x1)), some (.int (M.1 46 (16 + ((4 * x2) + x1)).toNatClampNeg))]) (st' := [.int (-1)]) (M' := M) (P := True) 1 rfl trivial ?_
              exact WX.iret rfl rfl (h12 c1 c2 c3 c6 c8 c10)
  · refine WX.run (pc' := 10) (L' := [some (.ref 37), some (.int x1), some (.int x2), some (.int x3), none, none]) (st' := [.int (-1)]) (M' := M) (P := True) 1 rfl trivial ?_
    exact WX.iret rfl rfl (h13 c1)
def z_M_cell_37 (M : Mem) (x1 x2 x3 : Int32) : Int32 := (if (z_M_isCell_37 M x1 x2) = 0 then (-1) else (if x3 = 0 then (M.1 46 ((4 * x2) + x1).toNatClampNeg) else (if x3 = 1 then (if (z_M_isLid_37 M ((4 * x2) + x1)) = 0 then (if (z_M_isDrain_37 M ((4 * x2) + x1)) = 0 then 0 else 2) else 1) else (if x3 = 2 then (if (M.1 46 (16 + ((4 * x2) + x1)).toNatClampNeg) = (-9) then (-9) else ((M.1 46 (16 + ((4 * x2) + x1)).toNatClampNeg) / 16)) else (if x3 = 3 then (if (M.1 46 (16 + ((4 * x2) + x1)).toNatClampNeg) = (-9) then (-9) else (rem (M.1 46 (16 + ((4 * x2) + x1)).toNatClampNeg) 16)) else (if x3 = 4 then ((shr (M.1 46 36) ((4 * x2) + x1)) &&& 1) else (-1)))))))
theorem wx_M_cell_37 {Q : Option Value → Mem → Prop} (M : Mem) (x1 x2 x3 : Int32)
    (b1 : ¬ (z_M_isCell_37 M x1 x2) = 0 → vp_in (16 + ((4 * x2) + x1)) 1257)
    (b2 : ¬ (z_M_isCell_37 M x1 x2) = 0 → x3 = 0 → vp_in ((4 * x2) + x1) 1257)
    (h : Q (some (.int (z_M_cell_37 M x1 x2 x3))) M) :
    WX mi_M_cell 3 Q 0 [some (.ref 37), some (.int x1), some (.int x2), some (.int x3), none, none] [] M := by
  refine sg_M_cell_37_0 M x1 x2 x3
    b1
    b2
    (fun c1 c2 => by
      unfold z_M_cell_37 at h
      rw [if_neg c1, if_pos c2] at h
      exact h)
    (fun c1 c2 c3 c4 c5 => by
      unfold z_M_cell_37 at h
      rw [if_neg c1, if_neg c2, if_pos c3, if_pos c4, if_pos c5] at h
      exact h)
    (fun c1 c2 c3 c4 c5 => by
      unfold z_M_cell_37 at h
      rw [if_neg c1, if_neg c2, if_pos c3, if_pos c4, if_neg c5] at h
      exact h)
    (fun c1 c2 c3 c4 => by
      unfold z_M_cell_37 at h
      rw [if_neg c1, if_neg c2, if_pos c3, if_neg c4] at h
      exact h)
    (fun c1 c2 c3 c4 c5 => by
      unfold z_M_cell_37 at h
      rw [if_neg c1, if_neg c2, if_neg c3, if_pos c4, if_neg c5] at h
      exact h)
    (fun c1 c2 c3 c4 c5 => by
      unfold z_M_cell_37 at h
      rw [if_neg c1, if_neg c2, if_neg c3, if_pos c4, if_pos c5] at h
      exact h)
    (fun c1 c2 c3 c4 c5 c6 => by
      unfold z_M_cell_37 at h
      rw [if_neg c1, if_neg c2, if_neg c3, if_neg c4, if_pos c5, if_neg c6] at h
      exact h)
    (fun c1 c2 c3 c4 c5 c6 => by
      unfold z_M_cell_37 at h
      rw [if_neg c1, if_neg c2, if_neg c3, if_neg c4, if_pos c5, if_pos c6] at h
      exact h)
    (fun c1 c2 c3 c4 c5 c6 => by
      unfold z_M_cell_37 at h
      rw [if_neg c1, if_neg c2, if_neg c3, if_neg c4, if_neg c5, if_pos c6] at h
      exact h)
    (fun c1 c2 c3 c4 c5 c6 => by
      unfold z_M_cell_37 at h
      rw [if_neg c1, if_neg c2, if_neg c3, if_neg c4, if_neg c5, if_neg c6] at h
      exact h)
    (fun c1 => by
      unfold z_M_cell_37 at h
      rw [if_pos c1] at h
      exact h)
theorem sg_M_lays_37_0 {Q : Option Value → Mem → Prop} (M : Mem) (x1 x2 x3 : Int32)
    (h1 : (z_M_in x1 0 3) = 0 → Q (some (.int (-1))) M)
    (h2 : ¬ (z_M_in x1 0 3) = 0 → ¬ (z_M_isCell_37 M x2 x3) = 0 → WX mi_M_cellsOf 3 (fun rv M' => WX mi_M_lays 5 Q 34 [some (.ref 37), some (.int x1), some (.int x2), some (.int x3), some (.int ((4 * x3) + x2)), none] (rv.toList ++ []) M') 0 [some (.ref 37), some (.int x1), some (.int ((4 * x3) + x2)), none, none, none, none] [] M)
    (h3 : ¬ (z_M_in x1 0 3) = 0 → (z_M_isCell_37 M x2 x3) = 0 → Q (some (.int (-1))) M) :
    WX mi_M_lays 5 Q 0 [some (.ref 37), some (.int x1), some (.int x2), some (.int x3), none, none] [] M := by
  refine WX.run (pc' := 3) (L' := [some (.ref 37), some (.int x1), some (.int x2), some (.int x3), none, none]) (st' := [.int 3, .int 0, .int x1]) (M' := M) (P := True) 3 rfl trivial ?_
  refine WX.callS (ca := mi_M_in) (n := 3) (d' := 1) (st := []) (As := [.int x1, .int 0, .int 3]) rfl lk_7_72 ck_M_in cs_M_in rfl (by decide) rfl (by decide) (by intro w hw; simp only [List.mem_cons, List.not_mem_nil, or_false] at hw; rcases hw with rfl | rfl | rfl <;> rfl) (by decide) ?_
  refine wx_M_in M x1 0 3 ?_
  show WX mi_M_lays 5 Q 6 [some (.ref 37), some (.int x1), some (.int x2), some (.int x3), none, none] [.int (z_M_in x1 0 3)] M
  refine WX.if_eq (off := 12) (tgt := 18) rfl rfl (fun c1 => ?_) (fun c1 => ?_)
  · refine WX.run (pc' := 19) (L' := [some (.ref 37), some (.int x1), some (.int x2), some (.int x3), none, none]) (st' := [.int (-1)]) (M' := M) (P := True) 1 rfl trivial ?_
    exact WX.iret rfl rfl (h1 c1)
  · refine WX.run (pc' := 12) (L' := [some (.ref 37), some (.int x1), some (.int x2), some (.int x3), none, none]) (st' := [.int x3, .int x2, .ref 37]) (M' := M) (P := True) 3 rfl trivial ?_
    refine WX.callV (ca := mi_M_isCell) (n := 2) (d' := 2) (st := []) (As := [.int x2, .int x3]) (q := 37) rfl lk_7_131 ck_M_isCell cv_M_isCell rfl (by decide) rfl (by decide) ⟨by decide, rfl, by decide⟩ (by intro w hw; simp only [List.mem_cons, List.not_mem_nil, or_false] at hw; rcases hw with rfl | rfl <;> rfl) (by decide) ?_
    refine wx_M_isCell_37 M x2 x3 ?_
    show WX mi_M_lays 5 Q 15 [some (.ref 37), some (.int x1), some (.int x2), some (.int x3), none, none] [.int (z_M_isCell_37 M x2 x3)] M
    refine WX.if_ne (off := 5) (tgt := 20) rfl rfl (fun c2 => ?_) (fun c2 => ?_)
    · refine WX.run (pc' := 31) (L' := [some (.ref 37), some (.int x1), some (.int x2), some (.int x3), some (.int ((4 * x3) + x2)), none]) (st' := [.int ((4 * x3) + x2), .int x1, .ref 37]) (M' := M) (P := True) 9 rfl trivial ?_
      refine WX.callV (ca := mi_M_cellsOf) (n := 2) (d' := 3) (st := []) (As := [.int x1, .int ((4 * x3) + x2)]) (q := 37) rfl lk_7_151 ck_M_cellsOf cv_M_cellsOf rfl (by decide) rfl (by decide) ⟨by decide, rfl, by decide⟩ (by intro w hw; simp only [List.mem_cons, List.not_mem_nil, or_false] at hw; rcases hw with rfl | rfl <;> rfl) (by decide) ?_
      exact (h2 c1 c2)
    · refine WX.run (pc' := 19) (L' := [some (.ref 37), some (.int x1), some (.int x2), some (.int x3), none, none]) (st' := [.int (-1)]) (M' := M) (P := True) 1 rfl trivial ?_
      exact WX.iret rfl rfl (h3 c1 c2)
theorem sg_M_lays_37_34 {Q : Option Value → Mem → Prop} (M : Mem) (x1 x2 x3 x4 r : Int32)
    (b1 : vp_in (32 + x1) 1257)
    (h2 : (M.1 46 (32 + x1).toNatClampNeg) = 0 → Q (some (.int (-2))) M)
    (h3 : ¬ (M.1 46 (32 + x1).toNatClampNeg) = 0 → r = 0 → Q (some (.int (-2))) M)
    (h4 : ¬ (M.1 46 (32 + x1).toNatClampNeg) = 0 → ¬ r = 0 → WX mi_M_freeBy 4 (fun rv M' => WX mi_M_lays 5 Q 65 [some (.ref 37), some (.int x1), some (.int x2), some (.int x3), some (.int x4), some (.int r)] (rv.toList ++ [.int r]) M') 0 [some (.ref 37), some (.ref 46), some (.int 16), none, none] [] M) :
    WX mi_M_lays 5 Q 34 [some (.ref 37), some (.int x1), some (.int x2), some (.int x3), some (.int x4), none] [.int r] M := by
  refine WX.run (pc' := 45) (L' := [some (.ref 37), some (.int x1), some (.int x2), some (.int x3), some (.int x4), some (.int r)]) (st' := [.int (M.1 46 (32 + x1).toNatClampNeg)]) (M' := M) (P := (True ∧ vp_in (32 + x1) 1257)) 7 rfl ⟨trivial, b1⟩ ?_
  refine WX.if_eq (off := 26) (tgt := 71) rfl rfl (fun c1 => ?_) (fun c1 => ?_)
  · refine WX.run (pc' := 73) (L' := [some (.ref 37), some (.int x1), some (.int x2), some (.int x3), some (.int x4), some (.int r)]) (st' := [.int (-2)]) (M' := M) (P := True) 1 rfl trivial ?_
    exact WX.iret rfl rfl (h2 c1)
  · refine WX.run (pc' := 50) (L' := [some (.ref 37), some (.int x1), some (.int x2), some (.int x3), some (.int x4), some (.int r)]) (st' := [.int r]) (M' := M) (P := True) 1 rfl trivial ?_
    refine WX.if_eq (off := 21) (tgt := 71) rfl rfl (fun c2 => ?_) (fun c2 => ?_)
    · refine WX.run (pc' := 73) (L' := [some (.ref 37), some (.int x1), some (.int x2), some (.int x3), some (.int x4), some (.int r)]) (st' := [.int (-2)]) (M' := M) (P := True) 1 rfl trivial ?_
      exact WX.iret rfl rfl (h3 c1 c2)
    · refine WX.run (pc' := 62) (L' := [some (.ref 37), some (.int x1), some (.int x2), some (.int x3), some (.int x4), some (.int r)]) (st' := [.int 16, .ref 46, .ref 37, .int r]) (M' := M) (P := True) 5 rfl trivial ?_
      refine WX.callV (ca := mi_M_freeBy) (n := 2) (d' := 4) (st := [.int r]) (As := [.ref 46, .int 16]) (q := 37) rfl lk_7_154 ck_M_freeBy cv_M_freeBy rfl (by decide) rfl (by decide) ⟨by decide, rfl, by decide⟩ (by intro w hw; simp only [List.mem_cons, List.not_mem_nil, or_false] at hw; rcases hw with rfl | rfl <;> rfl) (by decide) ?_
      exact (h4 c1 c2)
theorem sg_M_lays_37_65 {Q : Option Value → Mem → Prop} (M : Mem) (x1 x2 x3 x4 x5 r s1 : Int32)
    (h1 : (s1 &&& (r ^^^ (-1))) = 0 → WX mi_M_know 1 (fun rv M' => WX mi_M_lays 5 Q 78 [some (.ref 37), some (.int x1), some (.int x2), some (.int x3), some (.int x4), some (.int x5)] (rv.toList ++ []) M') 0 [some (.ref 37), none] [] M)
    (h2 : ¬ (s1 &&& (r ^^^ (-1))) = 0 → Q (some (.int (-2))) M) :
    WX mi_M_lays 5 Q 65 [some (.ref 37), some (.int x1), some (.int x2), some (.int x3), some (.int x4), some (.int x5)] [.int r, .int s1] M := by
  refine WX.run (pc' := 68) (L' := [some (.ref 37), some (.int x1), some (.int x2), some (.int x3), some (.int x4), some (.int x5)]) (st' := [.int (s1 &&& (r ^^^ (-1)))]) (M' := M) (P := True) 3 rfl trivial ?_
  refine WX.if_eq (off := 6) (tgt := 74) rfl rfl (fun c1 => ?_) (fun c1 => ?_)
  · refine WX.run (pc' := 75) (L' := [some (.ref 37), some (.int x1), some (.int x2), some (.int x3), some (.int x4), some (.int x5)]) (st' := [.ref 37]) (M' := M) (P := True) 1 rfl trivial ?_
    refine WX.callV (ca := mi_M_know) (n := 0) (d' := 1) (st := []) (As := []) (q := 37) rfl lk_7_158 ck_M_know cv_M_know rfl (by decide) rfl (by decide) ⟨by decide, rfl, by decide⟩ (fun w hw => absurd hw List.not_mem_nil) (by decide) ?_
    exact (h1 c1)
  · refine WX.run (pc' := 73) (L' := [some (.ref 37), some (.int x1), some (.int x2), some (.int x3), some (.int x4), some (.int x5)]) (st' := [.int (-2)]) (M' := M) (P := True) 1 rfl trivial ?_
    exact WX.iret rfl rfl (h2 c1)
theorem sg_M_lays_37_78 {Q : Option Value → Mem → Prop} (M : Mem) (x1 x2 x3 x4 x5 : Int32)
    (h1 : WX mi_M_put 1 (fun rv M' => WX mi_M_lays 5 Q 96 [some (.ref 37), some (.int x1), some (.int x2), some (.int x3), some (.int x4), some (.int x5)] (rv.toList ++ []) M') 0 [some (.ref 46), some (.int 16), some (.int x5), some (.int ((16 * x1) + x4)), none] [] M) :
    WX mi_M_lays 5 Q 78 [some (.ref 37), some (.int x1), some (.int x2), some (.int x3), some (.int x4), some (.int x5)] [] M := by
  refine WX.run (pc' := 93) (L' := [some (.ref 37), some (.int x1), some (.int x2), some (.int x3), some (.int x4), some (.int x5)]) (st' := [.int ((16 * x1) + x4), .int x5, .int 16, .ref 46]) (M' := M) (P := True) 9 rfl trivial ?_
  refine WX.callS (ca := mi_M_put) (n := 4) (d' := 1) (st := []) (As := [.ref 46, .int 16, .int x5, .int ((16 * x1) + x4)]) rfl lk_7_161 ck_M_put cs_M_put rfl (by decide) rfl (by decide) (by intro w hw; simp only [List.mem_cons, List.not_mem_nil, or_false] at hw; rcases hw with rfl | rfl | rfl | rfl <;> rfl) (by decide) ?_
  exact h1
theorem sg_M_lays_37_96 {Q : Option Value → Mem → Prop} (M : Mem) (x1 x2 x3 x4 x5 : Int32)
    (b1 : vp_in (32 + x1) 1257)
    (h2 : Q (some (.int (((wr M 46 36 ((M.1 46 36) ||| x5)).1 46 (32 + x1).toNatClampNeg) - 1))) (wr (wr M 46 36 ((M.1 46 36) ||| x5)) 46 (32 + x1).toNatClampNeg (((wr M 46 36 ((M.1 46 36) ||| x5)).1 46 (32 + x1).toNatClampNeg) - 1))) :
    WX mi_M_lays 5 Q 96 [some (.ref 37), some (.int x1), some (.int x2), some (.int x3), some (.int x4), some (.int x5)] [] M := by
  refine WX.run (pc' := 130) (L' := [some (.ref 37), some (.int x1), some (.int x2), some (.int x3), some (.int x4), some (.int x5)]) (st' := [.int (((wr M 46 36 ((M.1 46 36) ||| x5)).1 46 (32 + x1).toNatClampNeg) - 1)]) (M' := (wr (wr M 46 36 ((M.1 46 36) ||| x5)) 46 (32 + x1).toNatClampNeg (((wr M 46 36 ((M.1 46 36) ||| x5)).1 46 (32 + x1).toNatClampNeg) - 1))) (P := (((((True ∧ vp_in 36 1257) ∧ vp_in 36 1257) ∧ vp_in (32 + x1) 1257) ∧ vp_in (32 + x1) 1257) ∧ vp_in (32 + x1) 1257)) 24 rfl ⟨⟨⟨⟨⟨trivial, (vp_lit rfl)⟩, (vp_lit rfl)⟩, b1⟩, b1⟩, b1⟩ ?_
  exact WX.iret rfl rfl h2
theorem sg_M_lifts_37_0 {Q : Option Value → Mem → Prop} (M : Mem) (x1 x2 : Int32)
    (b1 : ¬ (z_M_isCell_37 M x1 x2) = 0 → vp_in ((16 + (4 * x2)) + x1) 1257)
    (h2 : ¬ (z_M_isCell_37 M x1 x2) = 0 → ¬ (M.1 46 ((16 + (4 * x2)) + x1).toNatClampNeg) = (-9) → WX mi_M_know 1 (fun rv M' => WX mi_M_lifts 4 Q 38 [some (.ref 37), some (.int x1), some (.int x2), some (.int (M.1 46 ((16 + (4 * x2)) + x1).toNatClampNeg)), none, none] (rv.toList ++ []) M') 0 [some (.ref 37), none] [] M)
    (h3 : ¬ (z_M_isCell_37 M x1 x2) = 0 → (M.1 46 ((16 + (4 * x2)) + x1).toNatClampNeg) = (-9) → Q (some (.int (-2))) M)
    (h4 : (z_M_isCell_37 M x1 x2) = 0 → Q (some (.int (-1))) M) :
    WX mi_M_lifts 4 Q 0 [some (.ref 37), some (.int x1), some (.int x2), none, none, none] [] M := by
  refine WX.run (pc' := 3) (L' := [some (.ref 37), some (.int x1), some (.int x2), none, none, none]) (st' := [.int x2, .int x1, .ref 37]) (M' := M) (P := True) 3 rfl trivial ?_
  refine WX.callV (ca := mi_M_isCell) (n := 2) (d' := 2) (st := []) (As := [.int x1, .int x2]) (q := 37) rfl lk_7_131 ck_M_isCell cv_M_isCell rfl (by decide) rfl (by decide) ⟨by decide, rfl, by decide⟩ (by intro w hw; simp only [List.mem_cons, List.not_mem_nil, or_false] at hw; rcases hw with rfl | rfl <;> rfl) (by decide) ?_
  refine wx_M_isCell_37 M x1 x2 ?_
  show WX mi_M_lifts 4 Q 6 [some (.ref 37), some (.int x1), some (.int x2), none, none, none] [.int (z_M_isCell_37 M x1 x2)] M
  refine WX.if_ne (off := 5) (tgt := 11) rfl rfl (fun c1 => ?_) (fun c1 => ?_)
  · refine WX.run (pc' := 28) (L' := [some (.ref 37), some (.int x1), some (.int x2), some (.int (M.1 46 ((16 + (4 * x2)) + x1).toNatClampNeg)), none, none]) (st' := [.int (-9), .int (M.1 46 ((16 + (4 * x2)) + x1).toNatClampNeg)]) (M' := M) (P := (True ∧ vp_in ((16 + (4 * x2)) + x1) 1257)) 13 rfl ⟨trivial, (b1 c1)⟩ ?_
    refine WX.icmp_ne (off := 6) (tgt := 34) rfl rfl (fun c2 => ?_) (fun c2 => ?_)
    · refine WX.run (pc' := 35) (L' := [some (.ref 37), some (.int x1), some (.int x2), some (.int (M.1 46 ((16 + (4 * x2)) + x1).toNatClampNeg)), none, none]) (st' := [.ref 37]) (M' := M) (P := True) 1 rfl trivial ?_
      refine WX.callV (ca := mi_M_know) (n := 0) (d' := 1) (st := []) (As := []) (q := 37) rfl lk_7_158 ck_M_know cv_M_know rfl (by decide) rfl (by decide) ⟨by decide, rfl, by decide⟩ (fun w hw => absurd hw List.not_mem_nil) (by decide) ?_
      exact (h2 c1 c2)
    · refine WX.run (pc' := 33) (L' := [some (.ref 37), some (.int x1), some (.int x2), some (.int (M.1 46 ((16 + (4 * x2)) + x1).toNatClampNeg)), none, none]) (st' := [.int (-2)]) (M' := M) (P := True) 1 rfl trivial ?_
      exact WX.iret rfl rfl (h3 c1 c2)
  · refine WX.run (pc' := 10) (L' := [some (.ref 37), some (.int x1), some (.int x2), none, none, none]) (st' := [.int (-1)]) (M' := M) (P := True) 1 rfl trivial ?_
    exact WX.iret rfl rfl (h4 c1)
theorem sg_M_lifts_37_38 {Q : Option Value → Mem → Prop} (M : Mem) (x1 x2 x3 : Int32)
    (h1 : WX mi_M_cellsOf 3 (fun rv M' => WX mi_M_lifts 4 Q 54 [some (.ref 37), some (.int x1), some (.int x2), some (.int x3), some (.int (x3 / 16)), none] (rv.toList ++ []) M') 0 [some (.ref 37), some (.int (x3 / 16)), some (.int (rem x3 16)), none, none, none, none] [] M) :
    WX mi_M_lifts 4 Q 38 [some (.ref 37), some (.int x1), some (.int x2), some (.int x3), none, none] [] M := by
  refine WX.run (pc' := 51) (L' := [some (.ref 37), some (.int x1), some (.int x2), some (.int x3), some (.int (x3 / 16)), none]) (st' := [.int (rem x3 16), .int (x3 / 16), .ref 37]) (M' := M) (P := ((True ∧ ¬ 16 = 0) ∧ ¬ 16 = 0)) 9 rfl ⟨⟨trivial, (by decide)⟩, (by decide)⟩ ?_
  refine WX.callV (ca := mi_M_cellsOf) (n := 2) (d' := 3) (st := []) (As := [.int (x3 / 16), .int (rem x3 16)]) (q := 37) rfl lk_7_151 ck_M_cellsOf cv_M_cellsOf rfl (by decide) rfl (by decide) ⟨by decide, rfl, by decide⟩ (by intro w hw; simp only [List.mem_cons, List.not_mem_nil, or_false] at hw; rcases hw with rfl | rfl <;> rfl) (by decide) ?_
  exact h1
theorem sg_M_lifts_37_54 {Q : Option Value → Mem → Prop} (M : Mem) (x1 x2 x3 x4 r : Int32)
    (h1 : WX mi_M_put 1 (fun rv M' => WX mi_M_lifts 4 Q 69 [some (.ref 37), some (.int x1), some (.int x2), some (.int x3), some (.int x4), some (.int r)] (rv.toList ++ []) M') 0 [some (.ref 46), some (.int 16), some (.int r), some (.int (-9)), none] [] M) :
    WX mi_M_lifts 4 Q 54 [some (.ref 37), some (.int x1), some (.int x2), some (.int x3), some (.int x4), none] [.int r] M := by
  refine WX.run (pc' := 66) (L' := [some (.ref 37), some (.int x1), some (.int x2), some (.int x3), some (.int x4), some (.int r)]) (st' := [.int (-9), .int r, .int 16, .ref 46]) (M' := M) (P := True) 6 rfl trivial ?_
  refine WX.callS (ca := mi_M_put) (n := 4) (d' := 1) (st := []) (As := [.ref 46, .int 16, .int r, .int (-9)]) rfl lk_7_161 ck_M_put cs_M_put rfl (by decide) rfl (by decide) (by intro w hw; simp only [List.mem_cons, List.not_mem_nil, or_false] at hw; rcases hw with rfl | rfl | rfl | rfl <;> rfl) (by decide) ?_
  exact h1
theorem sg_M_lifts_37_69 {Q : Option Value → Mem → Prop} (M : Mem) (x1 x2 x3 x4 x5 : Int32)
    (b1 : vp_in (32 + x4) 1257)
    (h2 : Q (some (.int x4)) (wr (wr M 46 36 ((M.1 46 36) &&& (x5 ^^^ (-1)))) 46 (32 + x4).toNatClampNeg (((wr M 46 36 ((M.1 46 36) &&& (x5 ^^^ (-1)))).1 46 (32 + x4).toNatClampNeg) + 1))) :
    WX mi_M_lifts 4 Q 69 [some (.ref 37), some (.int x1), some (.int x2), some (.int x3), some (.int x4), some (.int x5)] [] M := by
  refine WX.run (pc' := 99) (L' := [some (.ref 37), some (.int x1), some (.int x2), some (.int x3), some (.int x4), some (.int x5)]) (st' := [.int x4]) (M' := (wr (wr M 46 36 ((M.1 46 36) &&& (x5 ^^^ (-1)))) 46 (32 + x4).toNatClampNeg (((wr M 46 36 ((M.1 46 36) &&& (x5 ^^^ (-1)))).1 46 (32 + x4).toNatClampNeg) + 1))) (P := ((((True ∧ vp_in 36 1257) ∧ vp_in 36 1257) ∧ vp_in (32 + x4) 1257) ∧ vp_in (32 + x4) 1257)) 21 rfl ⟨⟨⟨⟨trivial, (vp_lit rfl)⟩, (vp_lit rfl)⟩, b1⟩, b1⟩ ?_
  exact WX.iret rfl rfl h2
theorem sg_M_raises_37_0 {Q : Option Value → Mem → Prop} (M : Mem) (x1 x2 x3 : Int32)
    (h1 : (z_M_isCell_37 M x1 x2) = 0 → Q (some (.int (-1))) M)
    (b2 : ¬ (z_M_isCell_37 M x1 x2) = 0 → ¬ (z_M_in x3 0 9) = 0 → vp_in ((4 * x2) + x1) 1257)
    (h3 : ¬ (z_M_isCell_37 M x1 x2) = 0 → ¬ (z_M_in x3 0 9) = 0 → ¬ (z_M_isDrain_37 M ((4 * x2) + x1)) = 0 → Q (some (.int (-2))) M)
    (h4 : ¬ (z_M_isCell_37 M x1 x2) = 0 → ¬ (z_M_in x3 0 9) = 0 → (z_M_isDrain_37 M ((4 * x2) + x1)) = 0 → ¬ (M.1 46 ((4 * x2) + x1).toNatClampNeg) = x3 → WX mi_M_know 1 (fun rv M' => WX mi_M_raises 3 Q 59 [some (.ref 37), some (.int x1), some (.int x2), some (.int x3), some (.int ((4 * x2) + x1)), some (.int (M.1 46 ((4 * x2) + x1).toNatClampNeg))] (rv.toList ++ []) M') 0 [some (.ref 37), none] [] M)
    (h5 : ¬ (z_M_isCell_37 M x1 x2) = 0 → ¬ (z_M_in x3 0 9) = 0 → (z_M_isDrain_37 M ((4 * x2) + x1)) = 0 → (M.1 46 ((4 * x2) + x1).toNatClampNeg) = x3 → Q (some (.int (-2))) M)
    (h6 : ¬ (z_M_isCell_37 M x1 x2) = 0 → (z_M_in x3 0 9) = 0 → Q (some (.int (-1))) M) :
    WX mi_M_raises 3 Q 0 [some (.ref 37), some (.int x1), some (.int x2), some (.int x3), none, none] [] M := by
  refine WX.run (pc' := 3) (L' := [some (.ref 37), some (.int x1), some (.int x2), some (.int x3), none, none]) (st' := [.int x2, .int x1, .ref 37]) (M' := M) (P := True) 3 rfl trivial ?_
  refine WX.callV (ca := mi_M_isCell) (n := 2) (d' := 2) (st := []) (As := [.int x1, .int x2]) (q := 37) rfl lk_7_131 ck_M_isCell cv_M_isCell rfl (by decide) rfl (by decide) ⟨by decide, rfl, by decide⟩ (by intro w hw; simp only [List.mem_cons, List.not_mem_nil, or_false] at hw; rcases hw with rfl | rfl <;> rfl) (by decide) ?_
  refine wx_M_isCell_37 M x1 x2 ?_
  show WX mi_M_raises 3 Q 6 [some (.ref 37), some (.int x1), some (.int x2), some (.int x3), none, none] [.int (z_M_isCell_37 M x1 x2)] M
  refine WX.if_eq (off := 13) (tgt := 19) rfl rfl (fun c1 => ?_) (fun c1 => ?_)
  · refine WX.run (pc' := 20) (L' := [some (.ref 37), some (.int x1), some (.int x2), some (.int x3), none, none]) (st' := [.int (-1)]) (M' := M) (P := True) 1 rfl trivial ?_
    exact WX.iret rfl rfl (h1 c1)
  · refine WX.run (pc' := 13) (L' := [some (.ref 37), some (.int x1), some (.int x2), some (.int x3), none, none]) (st' := [.int 9, .int 0, .int x3]) (M' := M) (P := True) 3 rfl trivial ?_
    refine WX.callS (ca := mi_M_in) (n := 3) (d' := 1) (st := []) (As := [.int x3, .int 0, .int 9]) rfl lk_7_72 ck_M_in cs_M_in rfl (by decide) rfl (by decide) (by intro w hw; simp only [List.mem_cons, List.not_mem_nil, or_false] at hw; rcases hw with rfl | rfl | rfl <;> rfl) (by decide) ?_
    refine wx_M_in M x3 0 9 ?_
    show WX mi_M_raises 3 Q 16 [some (.ref 37), some (.int x1), some (.int x2), some (.int x3), none, none] [.int (z_M_in x3 0 9)] M
    refine WX.if_ne (off := 5) (tgt := 21) rfl rfl (fun c2 => ?_) (fun c2 => ?_)
    · refine WX.run (pc' := 40) (L' := [some (.ref 37), some (.int x1), some (.int x2), some (.int x3), some (.int ((4 * x2) + x1)), some (.int (M.1 46 ((4 * x2) + x1).toNatClampNeg))]) (st' := [.int ((4 * x2) + x1), .ref 37]) (M' := M) (P := (True ∧ vp_in ((4 * x2) + x1) 1257)) 13 rfl ⟨trivial, (b2 c1 c2)⟩ ?_
      refine WX.callV (ca := mi_M_isDrain) (n := 1) (d' := 1) (st := []) (As := [.int ((4 * x2) + x1)]) (q := 37) rfl lk_7_138 ck_M_isDrain cv_M_isDrain rfl (by decide) rfl (by decide) ⟨by decide, rfl, by decide⟩ (by intro w hw; simp only [List.mem_cons, List.not_mem_nil, or_false] at hw; rcases hw with rfl <;> rfl) (by decide) ?_
      refine wx_M_isDrain_37 M ((4 * x2) + x1) ?_
      show WX mi_M_raises 3 Q 43 [some (.ref 37), some (.int x1), some (.int x2), some (.int x3), some (.int ((4 * x2) + x1)), some (.int (M.1 46 ((4 * x2) + x1).toNatClampNeg))] [.int (z_M_isDrain_37 M ((4 * x2) + x1))] M
      refine WX.if_ne (off := 9) (tgt := 52) rfl rfl (fun c3 => ?_) (fun c3 => ?_)
      · refine WX.run (pc' := 54) (L' := [some (.ref 37), some (.int x1), some (.int x2), some (.int x3), some (.int ((4 * x2) + x1)), some (.int (M.1 46 ((4 * x2) + x1).toNatClampNeg))]) (st' := [.int (-2)]) (M' := M) (P := True) 1 rfl trivial ?_
        exact WX.iret rfl rfl (h3 c1 c2 c3)
      · refine WX.run (pc' := 49) (L' := [some (.ref 37), some (.int x1), some (.int x2), some (.int x3), some (.int ((4 * x2) + x1)), some (.int (M.1 46 ((4 * x2) + x1).toNatClampNeg))]) (st' := [.int x3, .int (M.1 46 ((4 * x2) + x1).toNatClampNeg)]) (M' := M) (P := True) 2 rfl trivial ?_
        refine WX.icmp_ne (off := 6) (tgt := 55) rfl rfl (fun c4 => ?_) (fun c4 => ?_)
        · refine WX.run (pc' := 56) (L' := [some (.ref 37), some (.int x1), some (.int x2), some (.int x3), some (.int ((4 * x2) + x1)), some (.int (M.1 46 ((4 * x2) + x1).toNatClampNeg))]) (st' := [.ref 37]) (M' := M) (P := True) 1 rfl trivial ?_
          refine WX.callV (ca := mi_M_know) (n := 0) (d' := 1) (st := []) (As := []) (q := 37) rfl lk_7_158 ck_M_know cv_M_know rfl (by decide) rfl (by decide) ⟨by decide, rfl, by decide⟩ (fun w hw => absurd hw List.not_mem_nil) (by decide) ?_
          exact (h4 c1 c2 c3 c4)
        · refine WX.run (pc' := 54) (L' := [some (.ref 37), some (.int x1), some (.int x2), some (.int x3), some (.int ((4 * x2) + x1)), some (.int (M.1 46 ((4 * x2) + x1).toNatClampNeg))]) (st' := [.int (-2)]) (M' := M) (P := True) 1 rfl trivial ?_
          exact WX.iret rfl rfl (h5 c1 c2 c3 c4)
    · refine WX.run (pc' := 20) (L' := [some (.ref 37), some (.int x1), some (.int x2), some (.int x3), none, none]) (st' := [.int (-1)]) (M' := M) (P := True) 1 rfl trivial ?_
      exact WX.iret rfl rfl (h6 c1 c2)
theorem sg_M_raises_37_59 {Q : Option Value → Mem → Prop} (M : Mem) (x1 x2 x3 x4 x5 : Int32)
    (b1 : vp_in x4 1257)
    (h2 : Q (some (.int x5)) (wr M 46 x4.toNatClampNeg x3)) :
    WX mi_M_raises 3 Q 59 [some (.ref 37), some (.int x1), some (.int x2), some (.int x3), some (.int x4), some (.int x5)] [] M := by
  refine WX.run (pc' := 69) (L' := [some (.ref 37), some (.int x1), some (.int x2), some (.int x3), some (.int x4), some (.int x5)]) (st' := [.int x5]) (M' := (wr M 46 x4.toNatClampNeg x3)) (P := (True ∧ vp_in x4 1257)) 6 rfl ⟨trivial, b1⟩ ?_
  exact WX.iret rfl rfl h2
theorem sg_M_day_37_0 {Q : Option Value → Mem → Prop} (M : Mem)
    (h1 : ¬ (M.1 46 37) = 99 → WX mi_M_know 1 (fun rv M' => WX mi_M_day 2 Q 19 [some (.ref 37)] (rv.toList ++ []) M') 0 [some (.ref 37), none] [] M)
    (h2 : (M.1 46 37) = 99 → Q (some (.int (-2))) M) :
    WX mi_M_day 2 Q 0 [some (.ref 37)] [] M := by
  refine WX.run (pc' := 9) (L' := [some (.ref 37)]) (st' := [.int 99, .int (M.1 46 37)]) (M' := M) (P := (True ∧ vp_in 37 1257)) 5 rfl ⟨trivial, (vp_lit rfl)⟩ ?_
  refine WX.icmp_ne (off := 6) (tgt := 15) rfl rfl (fun c1 => ?_) (fun c1 => ?_)
  · refine WX.run (pc' := 16) (L' := [some (.ref 37)]) (st' := [.ref 37]) (M' := M) (P := True) 1 rfl trivial ?_
    refine WX.callV (ca := mi_M_know) (n := 0) (d' := 1) (st := []) (As := []) (q := 37) rfl lk_7_158 ck_M_know cv_M_know rfl (by decide) rfl (by decide) ⟨by decide, rfl, by decide⟩ (fun w hw => absurd hw List.not_mem_nil) (by decide) ?_
    exact (h1 c1)
  · refine WX.run (pc' := 14) (L' := [some (.ref 37)]) (st' := [.int (-2)]) (M' := M) (P := True) 1 rfl trivial ?_
    exact WX.iret rfl rfl (h2 c1)
theorem sg_M_day_37_19 {Q : Option Value → Mem → Prop} (M : Mem)
    (h1 : Q (some (.int ((M.1 46 37) + 1))) (wr (wr M 46 37 ((M.1 46 37) + 1)) 46 36 0)) :
    WX mi_M_day 2 Q 19 [some (.ref 37)] [] M := by
  refine WX.run (pc' := 45) (L' := [some (.ref 37)]) (st' := [.int ((M.1 46 37) + 1)]) (M' := (wr (wr M 46 37 ((M.1 46 37) + 1)) 46 36 0)) (P := ((((True ∧ vp_in 37 1257) ∧ vp_in 37 1257) ∧ vp_in 36 1257) ∧ vp_in 37 1257)) 17 rfl ⟨⟨⟨⟨trivial, (vp_lit rfl)⟩, (vp_lit rfl)⟩, (vp_lit rfl)⟩, (vp_lit rfl)⟩ ?_
  exact WX.iret rfl rfl h1
theorem sg_M_undo_37_0 {Q : Option Value → Mem → Prop} (M : Mem)
    (h1 : ¬ (M.1 46 38) = 0 → WX mi_M_undo 1 Q 26 [some (.ref 37), some (.int 0)] [] (wr M 46 38 ((M.1 46 38) - 1)))
    (h2 : (M.1 46 38) = 0 → Q (some (.int (-2))) M) :
    WX mi_M_undo 1 Q 0 [some (.ref 37), none] [] M := by
  refine WX.run (pc' := 7) (L' := [some (.ref 37), none]) (st' := [.int (M.1 46 38)]) (M' := M) (P := (True ∧ vp_in 38 1257)) 4 rfl ⟨trivial, (vp_lit rfl)⟩ ?_
  refine WX.if_ne (off := 6) (tgt := 13) rfl rfl (fun c1 => ?_) (fun c1 => ?_)
  · refine WX.run (pc' := 26) (L' := [some (.ref 37), some (.int 0)]) (st' := []) (M' := (wr M 46 38 ((M.1 46 38) - 1))) (P := ((True ∧ vp_in 38 1257) ∧ vp_in 38 1257)) 10 rfl ⟨⟨trivial, (vp_lit rfl)⟩, (vp_lit rfl)⟩ ?_
    exact (h1 c1)
  · refine WX.run (pc' := 12) (L' := [some (.ref 37), none]) (st' := [.int (-2)]) (M' := M) (P := True) 1 rfl trivial ?_
    exact WX.iret rfl rfl (h2 c1)
theorem sg_M_undo_37_26 {Q : Option Value → Mem → Prop} (M : Mem) (x1 : Int32)
    (h1 : 38 ≤ x1 → Q (some (.int (M.1 46 38))) M)
    (b2 : ¬ 38 ≤ x1 → vp_in ((39 + (38 * (M.1 46 38))) + x1) 1257)
    (b3 : ¬ 38 ≤ x1 → vp_in x1 1257)
    (h4 : ¬ 38 ≤ x1 → WX mi_M_undo 1 Q 26 [some (.ref 37), some (.int (x1 + 1))] [] (wr M 46 x1.toNatClampNeg (M.1 46 ((39 + (38 * (M.1 46 38))) + x1).toNatClampNeg))) :
    WX mi_M_undo 1 Q 26 [some (.ref 37), some (.int x1)] [] M := by
  refine WX.run (pc' := 29) (L' := [some (.ref 37), some (.int x1)]) (st' := [.int 38, .int x1]) (M' := M) (P := True) 2 rfl trivial ?_
  refine WX.icmp_ge (off := 35) (tgt := 64) rfl rfl (fun c1 => ?_) (fun c1 => ?_)
  · refine WX.run (pc' := 71) (L' := [some (.ref 37), some (.int x1)]) (st' := [.int (M.1 46 38)]) (M' := M) (P := (True ∧ vp_in 38 1257)) 4 rfl ⟨trivial, (vp_lit rfl)⟩ ?_
    exact WX.iret rfl rfl (h1 c1)
  · refine WX.run (pc' := 26) (L' := [some (.ref 37), some (.int (x1 + 1))]) (st' := []) (M' := (wr M 46 x1.toNatClampNeg (M.1 46 ((39 + (38 * (M.1 46 38))) + x1).toNatClampNeg))) (P := (((True ∧ vp_in 38 1257) ∧ vp_in ((39 + (38 * (M.1 46 38))) + x1) 1257) ∧ vp_in x1 1257)) 19 rfl ⟨⟨⟨trivial, (vp_lit rfl)⟩, (b2 c1)⟩, (b3 c1)⟩ ?_
    exact (h4 c1)
theorem sg_M_now_37_0 {Q : Option Value → Mem → Prop} (M : Mem) (x1 : Int32)
    (h1 : x1 = 0 → Q (some (.int (M.1 46 37))) M)
    (h2 : ¬ x1 = 0 → x1 = 1 → WX mi_M_freeBy 4 (fun rv M' => WX mi_M_now 6 Q 66 [some (.ref 37), some (.int x1), some (.int 0), none] (rv.toList ++ []) M') 0 [some (.ref 37), some (.ref 46), some (.int 16), none, none] [] M)
    (h3 : ¬ x1 = 0 → ¬ x1 = 1 → x1 = 2 → WX mi_M_now 6 Q 69 [some (.ref 37), some (.int x1), some (.int 0), some (.int 0)] [] M)
    (h4 : ¬ x1 = 0 → ¬ x1 = 1 → ¬ x1 = 2 → x1 = 3 → WX mi_M_puddles 5 (fun rv M' => WX mi_M_now 6 Q 107 [some (.ref 37), some (.int x1), some (.int 0), none] (rv.toList ++ []) M') 0 [some (.ref 37), some (.ref 46), none, none] [] M)
    (h5 : ¬ x1 = 0 → ¬ x1 = 1 → ¬ x1 = 2 → ¬ x1 = 3 → x1 = 4 → WX mi_M_crosses 4 (fun rv M' => WX mi_M_now 6 Q 118 [some (.ref 37), some (.int x1), some (.int 0), none] (rv.toList ++ []) M') 0 [some (.ref 37), some (.ref 46), some (.int 16), none, none, none] [] M)
    (h6 : ¬ x1 = 0 → ¬ x1 = 1 → ¬ x1 = 2 → ¬ x1 = 3 → ¬ x1 = 4 → x1 = 5 → WX mi_M_seam 4 (fun rv M' => WX mi_M_now 6 Q 123 [some (.ref 37), some (.int x1), some (.int 0), none] (rv.toList ++ []) M') 0 [some (.ref 37), none, none, none, none, none, none, none] [] M)
    (h7 : ¬ x1 = 0 → ¬ x1 = 1 → ¬ x1 = 2 → ¬ x1 = 3 → ¬ x1 = 4 → ¬ x1 = 5 → x1 = 6 → WX mi_M_alike 5 (fun rv M' => WX mi_M_now 6 Q 128 [some (.ref 37), some (.int x1), some (.int 0), none] (rv.toList ++ []) M') 0 [some (.ref 37), none, none, none, none] [] M)
    (h8 : ¬ x1 = 0 → ¬ x1 = 1 → ¬ x1 = 2 → ¬ x1 = 3 → ¬ x1 = 4 → ¬ x1 = 5 → ¬ x1 = 6 → x1 = 7 → Q (some (.int (M.1 46 36))) M)
    (h9 : ¬ x1 = 0 → ¬ x1 = 1 → ¬ x1 = 2 → ¬ x1 = 3 → ¬ x1 = 4 → ¬ x1 = 5 → ¬ x1 = 6 → ¬ x1 = 7 → Q (some (.int (-1))) M) :
    WX mi_M_now 6 Q 0 [some (.ref 37), some (.int x1), none, none] [] M := by
  refine WX.run (pc' := 3) (L' := [some (.ref 37), some (.int x1), some (.int 0), none]) (st' := [.int x1]) (M' := M) (P := True) 3 rfl trivial ?_
  by_cases c1 : x1 = 0
  · refine WX.tsw (tgt := 48) rfl (by decide) (by rw [c1]; decide) ?_
    refine WX.run (pc' := 55) (L' := [some (.ref 37), some (.int x1), some (.int 0), none]) (st' := [.int (M.1 46 37)]) (M' := M) (P := (True ∧ vp_in 37 1257)) 4 rfl ⟨trivial, (vp_lit rfl)⟩ ?_
    exact WX.iret rfl rfl (h1 c1)
  · skip
    by_cases c2 : x1 = 1
    · refine WX.tsw (tgt := 56) rfl (by decide) (by rw [c2]; decide) ?_
      refine WX.run (pc' := 63) (L' := [some (.ref 37), some (.int x1), some (.int 0), none]) (st' := [.int 16, .ref 46, .ref 37]) (M' := M) (P := True) 4 rfl trivial ?_
      refine WX.callV (ca := mi_M_freeBy) (n := 2) (d' := 4) (st := []) (As := [.ref 46, .int 16]) (q := 37) rfl lk_7_154 ck_M_freeBy cv_M_freeBy rfl (by decide) rfl (by decide) ⟨by decide, rfl, by decide⟩ (by intro w hw; simp only [List.mem_cons, List.not_mem_nil, or_false] at hw; rcases hw with rfl | rfl <;> rfl) (by decide) ?_
      exact (h2 c1 c2)
    · skip
      by_cases c3 : x1 = 2
      · refine WX.tsw (tgt := 67) rfl (by decide) (by rw [c3]; decide) ?_
        refine WX.run (pc' := 69) (L' := [some (.ref 37), some (.int x1), some (.int 0), some (.int 0)]) (st' := []) (M' := M) (P := True) 2 rfl trivial ?_
        exact (h3 c1 c2 c3)
      · skip
        by_cases c4 : x1 = 3
        · refine WX.tsw (tgt := 99) rfl (by decide) (by rw [c4]; decide) ?_
          refine WX.run (pc' := 104) (L' := [some (.ref 37), some (.int x1), some (.int 0), none]) (st' := [.ref 46, .ref 37]) (M' := M) (P := True) 3 rfl trivial ?_
          refine WX.callV (ca := mi_M_puddles) (n := 1) (d' := 5) (st := []) (As := [.ref 46]) (q := 37) rfl lk_7_187 ck_M_puddles cv_M_puddles rfl (by decide) rfl (by decide) ⟨by decide, rfl, by decide⟩ (by intro w hw; simp only [List.mem_cons, List.not_mem_nil, or_false] at hw; rcases hw with rfl <;> rfl) (by decide) ?_
          exact (h4 c1 c2 c3 c4)
        · skip
          by_cases c5 : x1 = 4
          · refine WX.tsw (tgt := 108) rfl (by decide) (by rw [c5]; decide) ?_
            refine WX.run (pc' := 115) (L' := [some (.ref 37), some (.int x1), some (.int 0), none]) (st' := [.int 16, .ref 46, .ref 37]) (M' := M) (P := True) 4 rfl trivial ?_
            refine WX.callV (ca := mi_M_crosses) (n := 2) (d' := 4) (st := []) (As := [.ref 46, .int 16]) (q := 37) rfl lk_7_191 ck_M_crosses cv_M_crosses rfl (by decide) rfl (by decide) ⟨by decide, rfl, by decide⟩ (by intro w hw; simp only [List.mem_cons, List.not_mem_nil, or_false] at hw; rcases hw with rfl | rfl <;> rfl) (by decide) ?_
            exact (h5 c1 c2 c3 c4 c5)
          · skip
            by_cases c6 : x1 = 5
            · refine WX.tsw (tgt := 119) rfl (by decide) (by rw [c6]; decide) ?_
              refine WX.run (pc' := 120) (L' := [some (.ref 37), some (.int x1), some (.int 0), none]) (st' := [.ref 37]) (M' := M) (P := True) 1 rfl trivial ?_
              refine WX.callV (ca := mi_M_seam) (n := 0) (d' := 4) (st := []) (As := []) (q := 37) rfl lk_7_194 ck_M_seam cv_M_seam rfl (by decide) rfl (by decide) ⟨by decide, rfl, by decide⟩ (fun w hw => absurd hw List.not_mem_nil) (by decide) ?_
              exact (h6 c1 c2 c3 c4 c5 c6)
            · skip
              by_cases c7 : x1 = 6
              · refine WX.tsw (tgt := 124) rfl (by decide) (by rw [c7]; decide) ?_
                refine WX.run (pc' := 125) (L' := [some (.ref 37), some (.int x1), some (.int 0), none]) (st' := [.ref 37]) (M' := M) (P := True) 1 rfl trivial ?_
                refine WX.callV (ca := mi_M_alike) (n := 0) (d' := 5) (st := []) (As := []) (q := 37) rfl lk_7_197 ck_M_alike cv_M_alike rfl (by decide) rfl (by decide) ⟨by decide, rfl, by decide⟩ (fun w hw => absurd hw List.not_mem_nil) (by decide) ?_
                exact (h7 c1 c2 c3 c4 c5 c6 c7)
              · skip
                by_cases c8 : x1 = 7
                · refine WX.tsw (tgt := 129) rfl (by decide) (by rw [c8]; decide) ?_
                  refine WX.run (pc' := 136) (L' := [some (.ref 37), some (.int x1), some (.int 0), none]) (st' := [.int (M.1 46 36)]) (M' := M) (P := (True ∧ vp_in 36 1257)) 4 rfl ⟨trivial, (vp_lit rfl)⟩ ?_
                  exact WX.iret rfl rfl (h8 c1 c2 c3 c4 c5 c6 c7 c8)
                · skip
                  refine WX.tsw (tgt := 137) rfl (by decide) (by
                        by_cases hr : (x1).toInt < 0 ∨ 7 < (x1).toInt
                        · unfold tswo; rw [if_pos hr]; rfl
                        · have hh : (x1).toInt = 0 ∨ (x1).toInt = 1 ∨ (x1).toInt = 2 ∨ (x1).toInt = 3 ∨ (x1).toInt = 4 ∨ (x1).toInt = 5 ∨ (x1).toInt = 6 ∨ (x1).toInt = 7 := by omega
                          rcases hh with hh | hh | hh | hh | hh | hh | hh | hh
                          · exact absurd hh (i32_ne c1 (by decide))
                          · exact absurd hh (i32_ne c2 (by decide))
                          · exact absurd hh (i32_ne c3 (by decide))
                          · exact absurd hh (i32_ne c4 (by decide))
                          · exact absurd hh (i32_ne c5 (by decide))
                          · exact absurd hh (i32_ne c6 (by decide))
                          · exact absurd hh (i32_ne c7 (by decide))
                          · exact absurd hh (i32_ne c8 (by decide))) ?_
                  refine WX.run (pc' := 138) (L' := [some (.ref 37), some (.int x1), some (.int 0), none]) (st' := [.int (-1)]) (M' := M) (P := True) 1 rfl trivial ?_
                  exact WX.iret rfl rfl (h9 c1 c2 c3 c4 c5 c6 c7 c8)
theorem sg_M_now_37_66 {Q : Option Value → Mem → Prop} (M : Mem) (x1 x2 r : Int32)
    (h1 : Q (some (.int r)) M) :
    WX mi_M_now 6 Q 66 [some (.ref 37), some (.int x1), some (.int x2), none] [.int r] M := by
  exact WX.iret rfl rfl h1
theorem sg_M_now_37_69 {Q : Option Value → Mem → Prop} (M : Mem) (x1 x2 x3 : Int32)
    (h1 : 16 ≤ x3 → Q (some (.int x2)) M)
    (b2 : ¬ 16 ≤ x3 → ((z_M_isCell_37 M (rem x3 4) (x3 / 4)) = 0 ∨ (z_M_isCell_37 M (rem x3 4) (x3 / 4)) = 1))
    (b3 : ¬ 16 ≤ x3 → ¬ (z_M_isThere_37 M x3) = 0 → vp_in (16 + x3) 1257)
    (b4 : ¬ 16 ≤ x3 → ¬ (z_M_isThere_37 M x3) = 0 → ¬ (M.1 46 (16 + x3).toNatClampNeg) = (-9) → vp_in (16 + x3) 1257)
    (h5 : ¬ 16 ≤ x3 → (z_M_begins_37 M x3) = 0 → WX mi_M_now 6 Q 69 [some (.ref 37), some (.int x1), some (.int (x2 + 0)), some (.int (x3 + 1))] [] M)
    (h6 : ¬ 16 ≤ x3 → ¬ (z_M_begins_37 M x3) = 0 → WX mi_M_now 6 Q 69 [some (.ref 37), some (.int x1), some (.int (x2 + 1)), some (.int (x3 + 1))] [] M) :
    WX mi_M_now 6 Q 69 [some (.ref 37), some (.int x1), some (.int x2), some (.int x3)] [] M := by
  refine WX.run (pc' := 72) (L' := [some (.ref 37), some (.int x1), some (.int x2), some (.int x3)]) (st' := [.int 16, .int x3]) (M' := M) (P := True) 2 rfl trivial ?_
  refine WX.icmp_ge (off := 25) (tgt := 97) rfl rfl (fun c1 => ?_) (fun c1 => ?_)
  · refine WX.run (pc' := 98) (L' := [some (.ref 37), some (.int x1), some (.int x2), some (.int x3)]) (st' := [.int x2]) (M' := M) (P := True) 1 rfl trivial ?_
    exact WX.iret rfl rfl (h1 c1)
  · refine WX.run (pc' := 78) (L' := [some (.ref 37), some (.int x1), some (.int x2), some (.int x3)]) (st' := [.int x3, .ref 37, .int x2]) (M' := M) (P := True) 3 rfl trivial ?_
    refine WX.callV (ca := mi_M_begins) (n := 1) (d' := 4) (st := [.int x2]) (As := [.int x3]) (q := 37) rfl lk_7_172 ck_M_begins cv_M_begins rfl (by decide) rfl (by decide) ⟨by decide, rfl, by decide⟩ (by intro w hw; simp only [List.mem_cons, List.not_mem_nil, or_false] at hw; rcases hw with rfl <;> rfl) (by decide) ?_
    refine wx_M_begins_37 M x3 (b2 c1) (b3 c1) (b4 c1) ?_
    show WX mi_M_now 6 Q 81 [some (.ref 37), some (.int x1), some (.int x2), some (.int x3)] [.int (z_M_begins_37 M x3), .int x2] M
    refine WX.if_eq (off := 7) (tgt := 88) rfl rfl (fun c2 => ?_) (fun c2 => ?_)
    · refine WX.run (pc' := 69) (L' := [some (.ref 37), some (.int x1), some (.int (x2 + 0)), some (.int (x3 + 1))]) (st' := []) (M' := M) (P := True) 5 rfl trivial ?_
      exact (h5 c1 c2)
    · refine WX.run (pc' := 69) (L' := [some (.ref 37), some (.int x1), some (.int (x2 + 1)), some (.int (x3 + 1))]) (st' := []) (M' := M) (P := True) 6 rfl trivial ?_
      exact (h6 c1 c2)
theorem sg_M_now_37_107 {Q : Option Value → Mem → Prop} (M : Mem) (x1 x2 r : Int32)
    (h1 : Q (some (.int r)) M) :
    WX mi_M_now 6 Q 107 [some (.ref 37), some (.int x1), some (.int x2), none] [.int r] M := by
  exact WX.iret rfl rfl h1
theorem sg_M_now_37_118 {Q : Option Value → Mem → Prop} (M : Mem) (x1 x2 r : Int32)
    (h1 : Q (some (.int r)) M) :
    WX mi_M_now 6 Q 118 [some (.ref 37), some (.int x1), some (.int x2), none] [.int r] M := by
  exact WX.iret rfl rfl h1
theorem sg_M_now_37_123 {Q : Option Value → Mem → Prop} (M : Mem) (x1 x2 r : Int32)
    (h1 : Q (some (.int r)) M) :
    WX mi_M_now 6 Q 123 [some (.ref 37), some (.int x1), some (.int x2), none] [.int r] M := by
  exact WX.iret rfl rfl h1
theorem sg_M_now_37_128 {Q : Option Value → Mem → Prop} (M : Mem) (x1 x2 r : Int32)
    (h1 : Q (some (.int r)) M) :
    WX mi_M_now 6 Q 128 [some (.ref 37), some (.int x1), some (.int x2), none] [.int r] M := by
  exact WX.iret rfl rfl h1
theorem sg_M_stock_37_0 {Q : Option Value → Mem → Prop} (M : Mem) (x1 : Int32)
    (h1 : (z_M_in x1 0 3) = 0 → Q (some (.int (-1))) M)
    (b2 : ¬ (z_M_in x1 0 3) = 0 → vp_in (32 + x1) 1257)
    (h3 : ¬ (z_M_in x1 0 3) = 0 → Q (some (.int (M.1 46 (32 + x1).toNatClampNeg))) M) :
    WX mi_M_stock 2 Q 0 [some (.ref 37), some (.int x1)] [] M := by
  refine WX.run (pc' := 3) (L' := [some (.ref 37), some (.int x1)]) (st' := [.int 3, .int 0, .int x1]) (M' := M) (P := True) 3 rfl trivial ?_
  refine WX.callS (ca := mi_M_in) (n := 3) (d' := 1) (st := []) (As := [.int x1, .int 0, .int 3]) rfl lk_7_72 ck_M_in cs_M_in rfl (by decide) rfl (by decide) (by intro w hw; simp only [List.mem_cons, List.not_mem_nil, or_false] at hw; rcases hw with rfl | rfl | rfl <;> rfl) (by decide) ?_
  refine wx_M_in M x1 0 3 ?_
  show WX mi_M_stock 2 Q 6 [some (.ref 37), some (.int x1)] [.int (z_M_in x1 0 3)] M
  refine WX.if_eq (off := 15) (tgt := 21) rfl rfl (fun c1 => ?_) (fun c1 => ?_)
  · refine WX.run (pc' := 22) (L' := [some (.ref 37), some (.int x1)]) (st' := [.int (-1)]) (M' := M) (P := True) 1 rfl trivial ?_
    exact WX.iret rfl rfl (h1 c1)
  · refine WX.run (pc' := 22) (L' := [some (.ref 37), some (.int x1)]) (st' := [.int (M.1 46 (32 + x1).toNatClampNeg)]) (M' := M) (P := (True ∧ vp_in (32 + x1) 1257)) 7 rfl ⟨trivial, (b2 c1)⟩ ?_
    exact WX.iret rfl rfl (h3 c1)
def z_M_stock_37 (M : Mem) (x1 : Int32) : Int32 := (if (z_M_in x1 0 3) = 0 then (-1) else (M.1 46 (32 + x1).toNatClampNeg))
theorem wx_M_stock_37 {Q : Option Value → Mem → Prop} (M : Mem) (x1 : Int32)
    (b2 : ¬ (z_M_in x1 0 3) = 0 → vp_in (32 + x1) 1257)
    (h : Q (some (.int (z_M_stock_37 M x1))) M) :
    WX mi_M_stock 2 Q 0 [some (.ref 37), some (.int x1)] [] M := by
  refine sg_M_stock_37_0 M x1
    (fun c1 => by
      unfold z_M_stock_37 at h
      rw [if_pos c1] at h
      exact h)
    b2
    (fun c1 => by
      unfold z_M_stock_37 at h
      rw [if_neg c1] at h
      exact h)
theorem sg_M_drop_37_0 {Q : Option Value → Mem → Prop} (M : Mem) (x1 x2 x3 : Int32)
    (h1 : (z_M_isDryAt_37 M x1 x2) = 0 → Q (some (.int (-1))) M)
    (h2 : ¬ (z_M_isDryAt_37 M x1 x2) = 0 → ¬ (z_M_in x3 0 1) = 0 → WX mi_M_nextOf 4 (fun rv M' => WX mi_M_drop 5 Q 40 [some (.ref 37), some (.int x1), some (.int x2), some (.int x3), some (.int ((4 * x2) + x1)), some (.int 0), none] (rv.toList ++ []) M') 0 [some (.ref 37), some (.ref 46), some (.int ((4 * x2) + x1)), none, none, none, none] [] M)
    (h3 : ¬ (z_M_isDryAt_37 M x1 x2) = 0 → (z_M_in x3 0 1) = 0 → Q (some (.int (-1))) M) :
    WX mi_M_drop 5 Q 0 [some (.ref 37), some (.int x1), some (.int x2), some (.int x3), none, none, none] [] M := by
  refine WX.run (pc' := 3) (L' := [some (.ref 37), some (.int x1), some (.int x2), some (.int x3), none, none, none]) (st' := [.int x2, .int x1, .ref 37]) (M' := M) (P := True) 3 rfl trivial ?_
  refine WX.callV (ca := mi_M_isDryAt) (n := 2) (d' := 3) (st := []) (As := [.int x1, .int x2]) (q := 37) rfl lk_7_200 ck_M_isDryAt cv_M_isDryAt rfl (by decide) rfl (by decide) ⟨by decide, rfl, by decide⟩ (by intro w hw; simp only [List.mem_cons, List.not_mem_nil, or_false] at hw; rcases hw with rfl | rfl <;> rfl) (by decide) ?_
  refine wx_M_isDryAt_37 M x1 x2 ?_
  show WX mi_M_drop 5 Q 6 [some (.ref 37), some (.int x1), some (.int x2), some (.int x3), none, none, none] [.int (z_M_isDryAt_37 M x1 x2)] M
  refine WX.if_eq (off := 12) (tgt := 18) rfl rfl (fun c1 => ?_) (fun c1 => ?_)
  · refine WX.run (pc' := 19) (L' := [some (.ref 37), some (.int x1), some (.int x2), some (.int x3), none, none, none]) (st' := [.int (-1)]) (M' := M) (P := True) 1 rfl trivial ?_
    exact WX.iret rfl rfl (h1 c1)
  · refine WX.run (pc' := 12) (L' := [some (.ref 37), some (.int x1), some (.int x2), some (.int x3), none, none, none]) (st' := [.int 1, .int 0, .int x3]) (M' := M) (P := True) 3 rfl trivial ?_
    refine WX.callS (ca := mi_M_in) (n := 3) (d' := 1) (st := []) (As := [.int x3, .int 0, .int 1]) rfl lk_7_72 ck_M_in cs_M_in rfl (by decide) rfl (by decide) (by intro w hw; simp only [List.mem_cons, List.not_mem_nil, or_false] at hw; rcases hw with rfl | rfl | rfl <;> rfl) (by decide) ?_
    refine wx_M_in M x3 0 1 ?_
    show WX mi_M_drop 5 Q 15 [some (.ref 37), some (.int x1), some (.int x2), some (.int x3), none, none, none] [.int (z_M_in x3 0 1)] M
    refine WX.if_ne (off := 5) (tgt := 20) rfl rfl (fun c2 => ?_) (fun c2 => ?_)
    · refine WX.run (pc' := 37) (L' := [some (.ref 37), some (.int x1), some (.int x2), some (.int x3), some (.int ((4 * x2) + x1)), some (.int 0), none]) (st' := [.int ((4 * x2) + x1), .ref 46, .ref 37]) (M' := M) (P := True) 12 rfl trivial ?_
      refine WX.callV (ca := mi_M_nextOf) (n := 2) (d' := 4) (st := []) (As := [.ref 46, .int ((4 * x2) + x1)]) (q := 37) rfl lk_7_181 ck_M_nextOf cv_M_nextOf rfl (by decide) rfl (by decide) ⟨by decide, rfl, by decide⟩ (by intro w hw; simp only [List.mem_cons, List.not_mem_nil, or_false] at hw; rcases hw with rfl | rfl <;> rfl) (by decide) ?_
      exact (h2 c1 c2)
    · refine WX.run (pc' := 19) (L' := [some (.ref 37), some (.int x1), some (.int x2), some (.int x3), none, none, none]) (st' := [.int (-1)]) (M' := M) (P := True) 1 rfl trivial ?_
      exact WX.iret rfl rfl (h3 c1 c2)
theorem sg_M_drop_37_40 {Q : Option Value → Mem → Prop} (M : Mem) (x1 x2 x3 x4 x5 r : Int32)
    (h1 : WX mi_M_drop 5 Q 42 [some (.ref 37), some (.int x1), some (.int x2), some (.int x3), some (.int x4), some (.int x5), some (.int r)] [] M) :
    WX mi_M_drop 5 Q 40 [some (.ref 37), some (.int x1), some (.int x2), some (.int x3), some (.int x4), some (.int x5), none] [.int r] M := by
  refine WX.run (pc' := 42) (L' := [some (.ref 37), some (.int x1), some (.int x2), some (.int x3), some (.int x4), some (.int x5), some (.int r)]) (st' := []) (M' := M) (P := True) 1 rfl trivial ?_
  exact h1
theorem sg_M_drop_37_42 {Q : Option Value → Mem → Prop} (M : Mem) (x1 x2 x3 x4 x5 x6 : Int32)
    (h1 : x6 = (-9) → ¬ x3 = 0 → Q (some (.int x5)) M)
    (h2 : x6 = (-9) → x3 = 0 → Q (some (.int x4)) M)
    (h3 : ¬ x6 = (-9) → WX mi_M_nextOf 4 (fun rv M' => WX mi_M_drop 5 Q 63 [some (.ref 37), some (.int x1), some (.int x2), some (.int x3), some (.int x6), some (.int x5), some (.int x6)] (rv.toList ++ []) M') 0 [some (.ref 37), some (.ref 46), some (.int x6), none, none, none, none] [] M) :
    WX mi_M_drop 5 Q 42 [some (.ref 37), some (.int x1), some (.int x2), some (.int x3), some (.int x4), some (.int x5), some (.int x6)] [] M := by
  refine WX.run (pc' := 46) (L' := [some (.ref 37), some (.int x1), some (.int x2), some (.int x3), some (.int x4), some (.int x5), some (.int x6)]) (st' := [.int (-9), .int x6]) (M' := M) (P := True) 2 rfl trivial ?_
  refine WX.icmp_eq (off := 25) (tgt := 71) rfl rfl (fun c1 => ?_) (fun c1 => ?_)
  · refine WX.run (pc' := 72) (L' := [some (.ref 37), some (.int x1), some (.int x2), some (.int x3), some (.int x4), some (.int x5), some (.int x6)]) (st' := [.int x3]) (M' := M) (P := True) 1 rfl trivial ?_
    refine WX.if_ne (off := 8) (tgt := 80) rfl rfl (fun c2 => ?_) (fun c2 => ?_)
    · refine WX.run (pc' := 82) (L' := [some (.ref 37), some (.int x1), some (.int x2), some (.int x3), some (.int x4), some (.int x5), some (.int x6)]) (st' := [.int x5]) (M' := M) (P := True) 1 rfl trivial ?_
      exact WX.iret rfl rfl (h1 c1 c2)
    · refine WX.run (pc' := 82) (L' := [some (.ref 37), some (.int x1), some (.int x2), some (.int x3), some (.int x4), some (.int x5), some (.int x6)]) (st' := [.int x4]) (M' := M) (P := True) 2 rfl trivial ?_
      exact WX.iret rfl rfl (h2 c1 c2)
  · refine WX.run (pc' := 60) (L' := [some (.ref 37), some (.int x1), some (.int x2), some (.int x3), some (.int x6), some (.int x5), some (.int x6)]) (st' := [.int x6, .ref 46, .ref 37]) (M' := M) (P := True) 6 rfl trivial ?_
    refine WX.callV (ca := mi_M_nextOf) (n := 2) (d' := 4) (st := []) (As := [.ref 46, .int x6]) (q := 37) rfl lk_7_181 ck_M_nextOf cv_M_nextOf rfl (by decide) rfl (by decide) ⟨by decide, rfl, by decide⟩ (by intro w hw; simp only [List.mem_cons, List.not_mem_nil, or_false] at hw; rcases hw with rfl | rfl <;> rfl) (by decide) ?_
    exact (h3 c1)
theorem sg_M_drop_37_63 {Q : Option Value → Mem → Prop} (M : Mem) (x1 x2 x3 x4 x5 x6 r : Int32)
    (h1 : WX mi_M_drop 5 Q 42 [some (.ref 37), some (.int x1), some (.int x2), some (.int x3), some (.int x4), some (.int (x5 + 1)), some (.int r)] [] M) :
    WX mi_M_drop 5 Q 63 [some (.ref 37), some (.int x1), some (.int x2), some (.int x3), some (.int x4), some (.int x5), some (.int x6)] [.int r] M := by
  refine WX.run (pc' := 42) (L' := [some (.ref 37), some (.int x1), some (.int x2), some (.int x3), some (.int x4), some (.int (x5 + 1)), some (.int r)]) (st' := []) (M' := M) (P := True) 3 rfl trivial ?_
  exact h1
theorem sg_M_feeds_37_0 {Q : Option Value → Mem → Prop} (M : Mem) (x1 x2 : Int32)
    (h1 : ¬ (z_M_isDryAt_37 M x1 x2) = 0 → WX mi_M_feeds 6 Q 16 [some (.ref 37), some (.int x1), some (.int x2), some (.int 0), some (.int 0)] [] M)
    (h2 : (z_M_isDryAt_37 M x1 x2) = 0 → Q (some (.int (-1))) M) :
    WX mi_M_feeds 6 Q 0 [some (.ref 37), some (.int x1), some (.int x2), none, none] [] M := by
  refine WX.run (pc' := 3) (L' := [some (.ref 37), some (.int x1), some (.int x2), none, none]) (st' := [.int x2, .int x1, .ref 37]) (M' := M) (P := True) 3 rfl trivial ?_
  refine WX.callV (ca := mi_M_isDryAt) (n := 2) (d' := 3) (st := []) (As := [.int x1, .int x2]) (q := 37) rfl lk_7_200 ck_M_isDryAt cv_M_isDryAt rfl (by decide) rfl (by decide) ⟨by decide, rfl, by decide⟩ (by intro w hw; simp only [List.mem_cons, List.not_mem_nil, or_false] at hw; rcases hw with rfl | rfl <;> rfl) (by decide) ?_
  refine wx_M_isDryAt_37 M x1 x2 ?_
  show WX mi_M_feeds 6 Q 6 [some (.ref 37), some (.int x1), some (.int x2), none, none] [.int (z_M_isDryAt_37 M x1 x2)] M
  refine WX.if_ne (off := 5) (tgt := 11) rfl rfl (fun c1 => ?_) (fun c1 => ?_)
  · refine WX.run (pc' := 16) (L' := [some (.ref 37), some (.int x1), some (.int x2), some (.int 0), some (.int 0)]) (st' := []) (M' := M) (P := True) 4 rfl trivial ?_
    exact (h1 c1)
  · refine WX.run (pc' := 10) (L' := [some (.ref 37), some (.int x1), some (.int x2), none, none]) (st' := [.int (-1)]) (M' := M) (P := True) 1 rfl trivial ?_
    exact WX.iret rfl rfl (h2 c1)
theorem sg_M_feeds_37_16 {Q : Option Value → Mem → Prop} (M : Mem) (x1 x2 x3 x4 : Int32)
    (h1 : 16 ≤ x4 → Q (some (.int x3)) M)
    (b2 : ¬ 16 ≤ x4 → ((z_M_isCell_37 M (rem x4 4) (x4 / 4)) = 0 ∨ (z_M_isCell_37 M (rem x4 4) (x4 / 4)) = 1))
    (h3 : ¬ 16 ≤ x4 → (z_M_isDry_37 M x4) = 0 → WX mi_M_feeds 6 Q 16 [some (.ref 37), some (.int x1), some (.int x2), some (.int (x3 ||| 0)), some (.int (x4 + 1))] [] M)
    (h4 : ¬ 16 ≤ x4 → ¬ (z_M_isDry_37 M x4) = 0 → WX mi_M_endOf 5 (fun rv M' => WX mi_M_feeds 6 Q 43 [some (.ref 37), some (.int x1), some (.int x2), some (.int x3), some (.int x4)] (rv.toList ++ [.int x3]) M') 0 [some (.ref 37), some (.ref 46), some (.int x4), none, none] [] M) :
    WX mi_M_feeds 6 Q 16 [some (.ref 37), some (.int x1), some (.int x2), some (.int x3), some (.int x4)] [] M := by
  refine WX.run (pc' := 20) (L' := [some (.ref 37), some (.int x1), some (.int x2), some (.int x3), some (.int x4)]) (st' := [.int 16, .int x4]) (M' := M) (P := True) 2 rfl trivial ?_
  refine WX.icmp_ge (off := 47) (tgt := 67) rfl rfl (fun c1 => ?_) (fun c1 => ?_)
  · refine WX.run (pc' := 68) (L' := [some (.ref 37), some (.int x1), some (.int x2), some (.int x3), some (.int x4)]) (st' := [.int x3]) (M' := M) (P := True) 1 rfl trivial ?_
    exact WX.iret rfl rfl (h1 c1)
  · refine WX.run (pc' := 27) (L' := [some (.ref 37), some (.int x1), some (.int x2), some (.int x3), some (.int x4)]) (st' := [.int x4, .ref 37, .int x3]) (M' := M) (P := True) 3 rfl trivial ?_
    refine WX.callV (ca := mi_M_isDry) (n := 1) (d' := 4) (st := [.int x3]) (As := [.int x4]) (q := 37) rfl lk_7_184 ck_M_isDry cv_M_isDry rfl (by decide) rfl (by decide) ⟨by decide, rfl, by decide⟩ (by intro w hw; simp only [List.mem_cons, List.not_mem_nil, or_false] at hw; rcases hw with rfl <;> rfl) (by decide) ?_
    refine wx_M_isDry_37 M x4 (b2 c1) ?_
    show WX mi_M_feeds 6 Q 30 [some (.ref 37), some (.int x1), some (.int x2), some (.int x3), some (.int x4)] [.int (z_M_isDry_37 M x4), .int x3] M
    refine WX.if_eq (off := 28) (tgt := 58) rfl rfl (fun c2 => ?_) (fun c2 => ?_)
    · refine WX.run (pc' := 16) (L' := [some (.ref 37), some (.int x1), some (.int x2), some (.int (x3 ||| 0)), some (.int (x4 + 1))]) (st' := []) (M' := M) (P := True) 5 rfl trivial ?_
      exact (h3 c1 c2)
    · refine WX.run (pc' := 40) (L' := [some (.ref 37), some (.int x1), some (.int x2), some (.int x3), some (.int x4)]) (st' := [.int x4, .ref 46, .ref 37, .int x3]) (M' := M) (P := True) 4 rfl trivial ?_
      refine WX.callV (ca := mi_M_endOf) (n := 2) (d' := 5) (st := [.int x3]) (As := [.ref 46, .int x4]) (q := 37) rfl lk_7_203 ck_M_endOf cv_M_endOf rfl (by decide) rfl (by decide) ⟨by decide, rfl, by decide⟩ (by intro w hw; simp only [List.mem_cons, List.not_mem_nil, or_false] at hw; rcases hw with rfl | rfl <;> rfl) (by decide) ?_
      exact (h4 c1 c2)
theorem sg_M_feeds_37_43 {Q : Option Value → Mem → Prop} (M : Mem) (x1 x2 x3 x4 r s1 : Int32)
    (h1 : ¬ r = ((4 * x2) + x1) → WX mi_M_feeds 6 Q 16 [some (.ref 37), some (.int x1), some (.int x2), some (.int (s1 ||| 0)), some (.int (x4 + 1))] [] M)
    (h2 : r = ((4 * x2) + x1) → WX mi_M_feeds 6 Q 16 [some (.ref 37), some (.int x1), some (.int x2), some (.int (s1 ||| (shl 1 x4))), some (.int (x4 + 1))] [] M) :
    WX mi_M_feeds 6 Q 43 [some (.ref 37), some (.int x1), some (.int x2), some (.int x3), some (.int x4)] [.int r, .int s1] M := by
  refine WX.run (pc' := 48) (L' := [some (.ref 37), some (.int x1), some (.int x2), some (.int x3), some (.int x4)]) (st' := [.int ((4 * x2) + x1), .int r, .int s1]) (M' := M) (P := True) 5 rfl trivial ?_
  refine WX.icmp_ne (off := 10) (tgt := 58) rfl rfl (fun c1 => ?_) (fun c1 => ?_)
  · refine WX.run (pc' := 16) (L' := [some (.ref 37), some (.int x1), some (.int x2), some (.int (s1 ||| 0)), some (.int (x4 + 1))]) (st' := []) (M' := M) (P := True) 5 rfl trivial ?_
    exact (h1 c1)
  · refine WX.run (pc' := 16) (L' := [some (.ref 37), some (.int x1), some (.int x2), some (.int (s1 ||| (shl 1 x4))), some (.int (x4 + 1))]) (st' := []) (M' := M) (P := True) 8 rfl trivial ?_
    exact (h2 c1)
theorem sg_M_mend_37_0 {Q : Option Value → Mem → Prop} (M : Mem) (x1 : Int32)
    (h1 : ¬ (z_M_in x1 0 2) = 0 → WX mi_M_puddles 5 (fun rv M' => WX mi_M_mend 6 Q 19 [some (.ref 37), some (.int x1), none, none, none, none, none, none, none, none] (rv.toList ++ []) M') 0 [some (.ref 37), some (.ref 46), none, none] [] M)
    (h2 : (z_M_in x1 0 2) = 0 → Q (some (.int (-1))) M) :
    WX mi_M_mend 6 Q 0 [some (.ref 37), some (.int x1), none, none, none, none, none, none, none, none] [] M := by
  refine WX.run (pc' := 3) (L' := [some (.ref 37), some (.int x1), none, none, none, none, none, none, none, none]) (st' := [.int 2, .int 0, .int x1]) (M' := M) (P := True) 3 rfl trivial ?_
  refine WX.callS (ca := mi_M_in) (n := 3) (d' := 1) (st := []) (As := [.int x1, .int 0, .int 2]) rfl lk_7_72 ck_M_in cs_M_in rfl (by decide) rfl (by decide) (by intro w hw; simp only [List.mem_cons, List.not_mem_nil, or_false] at hw; rcases hw with rfl | rfl | rfl <;> rfl) (by decide) ?_
  refine wx_M_in M x1 0 2 ?_
  show WX mi_M_mend 6 Q 6 [some (.ref 37), some (.int x1), none, none, none, none, none, none, none, none] [.int (z_M_in x1 0 2)] M
  refine WX.if_ne (off := 5) (tgt := 11) rfl rfl (fun c1 => ?_) (fun c1 => ?_)
  · refine WX.run (pc' := 16) (L' := [some (.ref 37), some (.int x1), none, none, none, none, none, none, none, none]) (st' := [.ref 46, .ref 37]) (M' := M) (P := True) 3 rfl trivial ?_
    refine WX.callV (ca := mi_M_puddles) (n := 1) (d' := 5) (st := []) (As := [.ref 46]) (q := 37) rfl lk_7_187 ck_M_puddles cv_M_puddles rfl (by decide) rfl (by decide) ⟨by decide, rfl, by decide⟩ (by intro w hw; simp only [List.mem_cons, List.not_mem_nil, or_false] at hw; rcases hw with rfl <;> rfl) (by decide) ?_
    exact (h1 c1)
  · refine WX.run (pc' := 10) (L' := [some (.ref 37), some (.int x1), none, none, none, none, none, none, none, none]) (st' := [.int (-1)]) (M' := M) (P := True) 1 rfl trivial ?_
    exact WX.iret rfl rfl (h2 c1)
theorem sg_M_mend_37_19 {Q : Option Value → Mem → Prop} (M : Mem) (x1 r : Int32)
    (h1 : WX mi_M_manyOf 1 (fun rv M' => WX mi_M_mend 6 Q 22 [some (.ref 37), some (.int x1), none, none, none, none, none, none, none, none] (rv.toList ++ []) M') 0 [some (.int r), none, none] [] M) :
    WX mi_M_mend 6 Q 19 [some (.ref 37), some (.int x1), none, none, none, none, none, none, none, none] [.int r] M := by
  refine WX.callS (ca := mi_M_manyOf) (n := 1) (d' := 1) (st := []) (As := [.int r]) rfl lk_7_206 ck_M_manyOf cs_M_manyOf rfl (by decide) rfl (by decide) (by intro w hw; simp only [List.mem_cons, List.not_mem_nil, or_false] at hw; rcases hw with rfl <;> rfl) (by decide) ?_
  exact h1
theorem sg_M_mend_37_22 {Q : Option Value → Mem → Prop} (M : Mem) (x1 r : Int32)
    (h1 : WX mi_M_mend 6 Q 35 [some (.ref 37), some (.int x1), some (.int r), some (.int (-9)), some (.int 0), some (.int 0), some (.int 0), none, none, none] [] M) :
    WX mi_M_mend 6 Q 22 [some (.ref 37), some (.int x1), none, none, none, none, none, none, none, none] [.int r] M := by
  refine WX.run (pc' := 35) (L' := [some (.ref 37), some (.int x1), some (.int r), some (.int (-9)), some (.int 0), some (.int 0), some (.int 0), none, none, none]) (st' := []) (M' := M) (P := True) 9 rfl trivial ?_
  exact h1
theorem sg_M_mend_37_35 {Q : Option Value → Mem → Prop} (M : Mem) (x1 x2 x3 x4 x5 x6 : Int32)
    (h1 : 16 ≤ x6 → WX mi_M_mend 6 Q 65 [some (.ref 37), some (.int x1), some (.int x2), some (.int x3), some (.int x4), some (.int x5), some (.int 0), none, none, none] [] M)
    (b2 : ¬ 16 ≤ x6 → vp_in x6 1257)
    (b3 : ¬ 16 ≤ x6 → vp_in x6 16)
    (h4 : ¬ 16 ≤ x6 → WX mi_M_mend 6 Q 35 [some (.ref 37), some (.int x1), some (.int x2), some (.int x3), some (.int x4), some (.int x5), some (.int (x6 + 1)), none, none, none] [] (wr M 48 x6.toNatClampNeg (M.1 46 x6.toNatClampNeg))) :
    WX mi_M_mend 6 Q 35 [some (.ref 37), some (.int x1), some (.int x2), some (.int x3), some (.int x4), some (.int x5), some (.int x6), none, none, none] [] M := by
  refine WX.run (pc' := 39) (L' := [some (.ref 37), some (.int x1), some (.int x2), some (.int x3), some (.int x4), some (.int x5), some (.int x6), none, none, none]) (st' := [.int 16, .int x6]) (M' := M) (P := True) 2 rfl trivial ?_
  refine WX.icmp_ge (off := 23) (tgt := 62) rfl rfl (fun c1 => ?_) (fun c1 => ?_)
  · refine WX.run (pc' := 65) (L' := [some (.ref 37), some (.int x1), some (.int x2), some (.int x3), some (.int x4), some (.int x5), some (.int 0), none, none, none]) (st' := []) (M' := M) (P := True) 2 rfl trivial ?_
    exact (h1 c1)
  · refine WX.run (pc' := 35) (L' := [some (.ref 37), some (.int x1), some (.int x2), some (.int x3), some (.int x4), some (.int x5), some (.int (x6 + 1)), none, none, none]) (st' := []) (M' := (wr M 48 x6.toNatClampNeg (M.1 46 x6.toNatClampNeg))) (P := ((True ∧ vp_in x6 1257) ∧ vp_in x6 16)) 10 rfl ⟨⟨trivial, (b2 c1)⟩, (b3 c1)⟩ ?_
    exact (h4 c1)
theorem sg_M_mend_37_65 {Q : Option Value → Mem → Prop} (M : Mem) (x1 x2 x3 x4 x5 x6 : Int32)
    (h1 : 16 ≤ x6 → x3 = (-9) → Q (some (.int x3)) M)
    (h2 : 16 ≤ x6 → ¬ x3 = (-9) → ¬ x1 = 0 → ¬ x1 = 1 → Q (some (.int x2)) M)
    (h3 : 16 ≤ x6 → ¬ x3 = (-9) → ¬ x1 = 0 → x1 = 1 → Q (some (.int x4)) M)
    (h4 : 16 ≤ x6 → ¬ x3 = (-9) → x1 = 0 → Q (some (.int x3)) M)
    (h5 : ¬ 16 ≤ x6 → WX mi_M_mend 6 Q 75 [some (.ref 37), some (.int x1), some (.int x2), some (.int x3), some (.int x4), some (.int x5), some (.int x6), some (.int 0), none, none] [] M) :
    WX mi_M_mend 6 Q 65 [some (.ref 37), some (.int x1), some (.int x2), some (.int x3), some (.int x4), some (.int x5), some (.int x6), none, none, none] [] M := by
  refine WX.run (pc' := 69) (L' := [some (.ref 37), some (.int x1), some (.int x2), some (.int x3), some (.int x4), some (.int x5), some (.int x6), none, none, none]) (st' := [.int 16, .int x6]) (M' := M) (P := True) 2 rfl trivial ?_
  refine WX.icmp_ge (off := 155) (tgt := 224) rfl rfl (fun c1 => ?_) (fun c1 => ?_)
  · refine WX.run (pc' := 227) (L' := [some (.ref 37), some (.int x1), some (.int x2), some (.int x3), some (.int x4), some (.int x5), some (.int x6), none, none, none]) (st' := [.int (-9), .int x3]) (M' := M) (P := True) 2 rfl trivial ?_
    refine WX.icmp_eq (off := 7) (tgt := 234) rfl rfl (fun c2 => ?_) (fun c2 => ?_)
    · refine WX.run (pc' := 249) (L' := [some (.ref 37), some (.int x1), some (.int x2), some (.int x3), some (.int x4), some (.int x5), some (.int x6), none, none, none]) (st' := [.int x3]) (M' := M) (P := True) 2 rfl trivial ?_
      exact WX.iret rfl rfl (h1 c1 c2)
    · refine WX.run (pc' := 231) (L' := [some (.ref 37), some (.int x1), some (.int x2), some (.int x3), some (.int x4), some (.int x5), some (.int x6), none, none, none]) (st' := [.int x1]) (M' := M) (P := True) 1 rfl trivial ?_
      refine WX.if_ne (off := 7) (tgt := 238) rfl rfl (fun c3 => ?_) (fun c3 => ?_)
      · refine WX.run (pc' := 240) (L' := [some (.ref 37), some (.int x1), some (.int x2), some (.int x3), some (.int x4), some (.int x5), some (.int x6), none, none, none]) (st' := [.int 1, .int x1]) (M' := M) (P := True) 2 rfl trivial ?_
        refine WX.icmp_ne (off := 8) (tgt := 248) rfl rfl (fun c4 => ?_) (fun c4 => ?_)
        · refine WX.run (pc' := 249) (L' := [some (.ref 37), some (.int x1), some (.int x2), some (.int x3), some (.int x4), some (.int x5), some (.int x6), none, none, none]) (st' := [.int x2]) (M' := M) (P := True) 1 rfl trivial ?_
          exact WX.iret rfl rfl (h2 c1 c2 c3 c4)
        · refine WX.run (pc' := 249) (L' := [some (.ref 37), some (.int x1), some (.int x2), some (.int x3), some (.int x4), some (.int x5), some (.int x6), none, none, none]) (st' := [.int x4]) (M' := M) (P := True) 2 rfl trivial ?_
          exact WX.iret rfl rfl (h3 c1 c2 c3 c4)
      · refine WX.run (pc' := 249) (L' := [some (.ref 37), some (.int x1), some (.int x2), some (.int x3), some (.int x4), some (.int x5), some (.int x6), none, none, none]) (st' := [.int x3]) (M' := M) (P := True) 2 rfl trivial ?_
        exact WX.iret rfl rfl (h4 c1 c2 c3)
  · refine WX.run (pc' := 75) (L' := [some (.ref 37), some (.int x1), some (.int x2), some (.int x3), some (.int x4), some (.int x5), some (.int x6), some (.int 0), none, none]) (st' := []) (M' := M) (P := True) 2 rfl trivial ?_
    exact (h5 c1)
theorem sg_M_mend_37_75 {Q : Option Value → Mem → Prop} (M : Mem) (x1 x2 x3 x4 x5 x6 x7 : Int32)
    (b1 : 9 < x7 → vp_in x6 1257)
    (b2 : 9 < x7 → vp_in x6 16)
    (h3 : 9 < x7 → WX mi_M_mend 6 Q 65 [some (.ref 37), some (.int x1), some (.int x2), some (.int x3), some (.int x4), some (.int x5), some (.int (x6 + 1)), none, none, none] [] (wr M 48 x6.toNatClampNeg (M.1 46 x6.toNatClampNeg)))
    (b4 : ¬ 9 < x7 → ((z_M_isCell_37 M (rem x6 4) (x6 / 4)) = 0 ∨ (z_M_isCell_37 M (rem x6 4) (x6 / 4)) = 1))
    (b5 : ¬ 9 < x7 → (z_M_isDry_37 M x6) = 0 → vp_in x6 1257)
    (b6 : ¬ 9 < x7 → (z_M_isDry_37 M x6) = 0 → vp_in x6 16)
    (h7 : ¬ 9 < x7 → (z_M_isDry_37 M x6) = 0 → WX mi_M_mend 6 Q 65 [some (.ref 37), some (.int x1), some (.int x2), some (.int x3), some (.int x4), some (.int x5), some (.int (x6 + 1)), none, none, none] [] (wr M 48 x6.toNatClampNeg (M.1 46 x6.toNatClampNeg)))
    (b8 : ¬ 9 < x7 → ¬ (z_M_isDry_37 M x6) = 0 → ¬ (z_M_isDrain_37 M x6) = 0 → vp_in x6 1257)
    (b9 : ¬ 9 < x7 → ¬ (z_M_isDry_37 M x6) = 0 → ¬ (z_M_isDrain_37 M x6) = 0 → vp_in x6 16)
    (h10 : ¬ 9 < x7 → ¬ (z_M_isDry_37 M x6) = 0 → ¬ (z_M_isDrain_37 M x6) = 0 → WX mi_M_mend 6 Q 65 [some (.ref 37), some (.int x1), some (.int x2), some (.int x3), some (.int x4), some (.int x5), some (.int (x6 + 1)), none, none, none] [] (wr M 48 x6.toNatClampNeg (M.1 46 x6.toNatClampNeg)))
    (b11 : ¬ 9 < x7 → ¬ (z_M_isDry_37 M x6) = 0 → (z_M_isDrain_37 M x6) = 0 → vp_in x6 16)
    (h12 : ¬ 9 < x7 → ¬ (z_M_isDry_37 M x6) = 0 → (z_M_isDrain_37 M x6) = 0 → WX mi_M_puddles 5 (fun rv M' => WX mi_M_mend 6 Q 117 [some (.ref 37), some (.int x1), some (.int x2), some (.int x3), some (.int x4), some (.int x5), some (.int x6), some (.int x7), none, none] (rv.toList ++ []) M') 0 [some (.ref 37), some (.ref 48), none, none] [] (wr M 48 x6.toNatClampNeg x7)) :
    WX mi_M_mend 6 Q 75 [some (.ref 37), some (.int x1), some (.int x2), some (.int x3), some (.int x4), some (.int x5), some (.int x6), some (.int x7), none, none] [] M := by
  refine WX.run (pc' := 79) (L' := [some (.ref 37), some (.int x1), some (.int x2), some (.int x3), some (.int x4), some (.int x5), some (.int x6), some (.int x7), none, none]) (st' := [.int 9, .int x7]) (M' := M) (P := True) 2 rfl trivial ?_
  refine WX.icmp_gt (off := 125) (tgt := 204) rfl rfl (fun c1 => ?_) (fun c1 => ?_)
  · refine WX.run (pc' := 65) (L' := [some (.ref 37), some (.int x1), some (.int x2), some (.int x3), some (.int x4), some (.int x5), some (.int (x6 + 1)), some (.int x7), none, none]) (st' := []) (M' := (wr M 48 x6.toNatClampNeg (M.1 46 x6.toNatClampNeg))) (P := ((True ∧ vp_in x6 1257) ∧ vp_in x6 16)) 10 rfl ⟨⟨trivial, (b1 c1)⟩, (b2 c1)⟩ ?_
    refine WX.forget2 (L' := [some (.ref 37), some (.int x1), some (.int x2), some (.int x3), some (.int x4), some (.int x5), some (.int (x6 + 1)), none, none, none]) ?_ ⟨Or.inr rfl, Or.inr rfl, Or.inr rfl, Or.inr rfl, Or.inr rfl, Or.inr rfl, Or.inr rfl, Or.inl rfl, Or.inr rfl, Or.inr rfl, trivial⟩
    exact (h3 c1)
  · refine WX.run (pc' := 85) (L' := [some (.ref 37), some (.int x1), some (.int x2), some (.int x3), some (.int x4), some (.int x5), some (.int x6), some (.int x7), none, none]) (st' := [.int x6, .ref 37]) (M' := M) (P := True) 2 rfl trivial ?_
    refine WX.callV (ca := mi_M_isDry) (n := 1) (d' := 4) (st := []) (As := [.int x6]) (q := 37) rfl lk_7_184 ck_M_isDry cv_M_isDry rfl (by decide) rfl (by decide) ⟨by decide, rfl, by decide⟩ (by intro w hw; simp only [List.mem_cons, List.not_mem_nil, or_false] at hw; rcases hw with rfl <;> rfl) (by decide) ?_
    refine wx_M_isDry_37 M x6 (b4 c1) ?_
    show WX mi_M_mend 6 Q 88 [some (.ref 37), some (.int x1), some (.int x2), some (.int x3), some (.int x4), some (.int x5), some (.int x6), some (.int x7), none, none] [.int (z_M_isDry_37 M x6)] M
    refine WX.if_eq (off := 116) (tgt := 204) rfl rfl (fun c2 => ?_) (fun c2 => ?_)
    · refine WX.run (pc' := 65) (L' := [some (.ref 37), some (.int x1), some (.int x2), some (.int x3), some (.int x4), some (.int x5), some (.int (x6 + 1)), some (.int x7), none, none]) (st' := []) (M' := (wr M 48 x6.toNatClampNeg (M.1 46 x6.toNatClampNeg))) (P := ((True ∧ vp_in x6 1257) ∧ vp_in x6 16)) 10 rfl ⟨⟨trivial, (b5 c1 c2)⟩, (b6 c1 c2)⟩ ?_
      refine WX.forget2 (L' := [some (.ref 37), some (.int x1), some (.int x2), some (.int x3), some (.int x4), some (.int x5), some (.int (x6 + 1)), none, none, none]) ?_ ⟨Or.inr rfl, Or.inr rfl, Or.inr rfl, Or.inr rfl, Or.inr rfl, Or.inr rfl, Or.inr rfl, Or.inl rfl, Or.inr rfl, Or.inr rfl, trivial⟩
      exact (h7 c1 c2)
    · refine WX.run (pc' := 94) (L' := [some (.ref 37), some (.int x1), some (.int x2), some (.int x3), some (.int x4), some (.int x5), some (.int x6), some (.int x7), none, none]) (st' := [.int x6, .ref 37]) (M' := M) (P := True) 2 rfl trivial ?_
      refine WX.callV (ca := mi_M_isDrain) (n := 1) (d' := 1) (st := []) (As := [.int x6]) (q := 37) rfl lk_7_138 ck_M_isDrain cv_M_isDrain rfl (by decide) rfl (by decide) ⟨by decide, rfl, by decide⟩ (by intro w hw; simp only [List.mem_cons, List.not_mem_nil, or_false] at hw; rcases hw with rfl <;> rfl) (by decide) ?_
      refine wx_M_isDrain_37 M x6 ?_
      show WX mi_M_mend 6 Q 97 [some (.ref 37), some (.int x1), some (.int x2), some (.int x3), some (.int x4), some (.int x5), some (.int x6), some (.int x7), none, none] [.int (z_M_isDrain_37 M x6)] M
      refine WX.if_ne (off := 107) (tgt := 204) rfl rfl (fun c3 => ?_) (fun c3 => ?_)
      · refine WX.run (pc' := 65) (L' := [some (.ref 37), some (.int x1), some (.int x2), some (.int x3), some (.int x4), some (.int x5), some (.int (x6 + 1)), some (.int x7), none, none]) (st' := []) (M' := (wr M 48 x6.toNatClampNeg (M.1 46 x6.toNatClampNeg))) (P := ((True ∧ vp_in x6 1257) ∧ vp_in x6 16)) 10 rfl ⟨⟨trivial, (b8 c1 c2 c3)⟩, (b9 c1 c2 c3)⟩ ?_
        refine WX.forget2 (L' := [some (.ref 37), some (.int x1), some (.int x2), some (.int x3), some (.int x4), some (.int x5), some (.int (x6 + 1)), none, none, none]) ?_ ⟨Or.inr rfl, Or.inr rfl, Or.inr rfl, Or.inr rfl, Or.inr rfl, Or.inr rfl, Or.inr rfl, Or.inl rfl, Or.inr rfl, Or.inr rfl, trivial⟩
        exact (h10 c1 c2 c3)
      · refine WX.run (pc' := 114) (L' := [some (.ref 37), some (.int x1), some (.int x2), some (.int x3), some (.int x4), some (.int x5), some (.int x6), some (.int x7), none, none]) (st' := [.ref 48, .ref 37]) (M' := (wr M 48 x6.toNatClampNeg x7)) (P := (True ∧ vp_in x6 16)) 8 rfl ⟨trivial, (b11 c1 c2 c3)⟩ ?_
        refine WX.callV (ca := mi_M_puddles) (n := 1) (d' := 5) (st := []) (As := [.ref 48]) (q := 37) rfl lk_7_187 ck_M_puddles cv_M_puddles rfl (by decide) rfl (by decide) ⟨by decide, rfl, by decide⟩ (by intro w hw; simp only [List.mem_cons, List.not_mem_nil, or_false] at hw; rcases hw with rfl <;> rfl) (by decide) ?_
        exact (h12 c1 c2 c3)
theorem sg_M_mend_37_117 {Q : Option Value → Mem → Prop} (M : Mem) (x1 x2 x3 x4 x5 x6 x7 r : Int32)
    (h1 : WX mi_M_manyOf 1 (fun rv M' => WX mi_M_mend 6 Q 120 [some (.ref 37), some (.int x1), some (.int x2), some (.int x3), some (.int x4), some (.int x5), some (.int x6), some (.int x7), none, none] (rv.toList ++ []) M') 0 [some (.int r), none, none] [] M) :
    WX mi_M_mend 6 Q 117 [some (.ref 37), some (.int x1), some (.int x2), some (.int x3), some (.int x4), some (.int x5), some (.int x6), some (.int x7), none, none] [.int r] M := by
  refine WX.callS (ca := mi_M_manyOf) (n := 1) (d' := 1) (st := []) (As := [.int r]) rfl lk_7_206 ck_M_manyOf cs_M_manyOf rfl (by decide) rfl (by decide) (by intro w hw; simp only [List.mem_cons, List.not_mem_nil, or_false] at hw; rcases hw with rfl <;> rfl) (by decide) ?_
  exact h1
theorem sg_M_mend_37_120 {Q : Option Value → Mem → Prop} (M : Mem) (x1 x2 x3 x4 x5 x6 x7 r : Int32)
    (b1 : vp_in x6 1257)
    (b2 : (M.1 46 x6.toNatClampNeg) ≤ x7 → vp_in x6 1257)
    (h3 : (M.1 46 x6.toNatClampNeg) ≤ x7 → r < x2 → WX mi_M_mend 6 Q 75 [some (.ref 37), some (.int x1), some (.int r), some (.int x6), some (.int x7), some (.int (x7 - (M.1 46 x6.toNatClampNeg))), some (.int x6), some (.int (x7 + 1)), none, none] [] M)
    (h4 : (M.1 46 x6.toNatClampNeg) ≤ x7 → ¬ r < x2 → ¬ r = x2 → WX mi_M_mend 6 Q 75 [some (.ref 37), some (.int x1), some (.int x2), some (.int x3), some (.int x4), some (.int x5), some (.int x6), some (.int (x7 + 1)), none, none] [] M)
    (h5 : (M.1 46 x6.toNatClampNeg) ≤ x7 → ¬ r < x2 → r = x2 → x3 = (-9) → WX mi_M_mend 6 Q 75 [some (.ref 37), some (.int x1), some (.int x2), some (.int x3), some (.int x4), some (.int x5), some (.int x6), some (.int (x7 + 1)), none, none] [] M)
    (h6 : (M.1 46 x6.toNatClampNeg) ≤ x7 → ¬ r < x2 → r = x2 → ¬ x3 = (-9) → x5 ≤ (x7 - (M.1 46 x6.toNatClampNeg)) → WX mi_M_mend 6 Q 75 [some (.ref 37), some (.int x1), some (.int x2), some (.int x3), some (.int x4), some (.int x5), some (.int x6), some (.int (x7 + 1)), none, none] [] M)
    (h7 : (M.1 46 x6.toNatClampNeg) ≤ x7 → ¬ r < x2 → r = x2 → ¬ x3 = (-9) → ¬ x5 ≤ (x7 - (M.1 46 x6.toNatClampNeg)) → WX mi_M_mend 6 Q 75 [some (.ref 37), some (.int x1), some (.int r), some (.int x6), some (.int x7), some (.int (x7 - (M.1 46 x6.toNatClampNeg))), some (.int x6), some (.int (x7 + 1)), none, none] [] M)
    (b8 : ¬ (M.1 46 x6.toNatClampNeg) ≤ x7 → vp_in x6 1257)
    (h9 : ¬ (M.1 46 x6.toNatClampNeg) ≤ x7 → r < x2 → WX mi_M_mend 6 Q 75 [some (.ref 37), some (.int x1), some (.int r), some (.int x6), some (.int x7), some (.int ((M.1 46 x6.toNatClampNeg) - x7)), some (.int x6), some (.int (x7 + 1)), none, none] [] M)
    (h10 : ¬ (M.1 46 x6.toNatClampNeg) ≤ x7 → ¬ r < x2 → ¬ r = x2 → WX mi_M_mend 6 Q 75 [some (.ref 37), some (.int x1), some (.int x2), some (.int x3), some (.int x4), some (.int x5), some (.int x6), some (.int (x7 + 1)), none, none] [] M)
    (h11 : ¬ (M.1 46 x6.toNatClampNeg) ≤ x7 → ¬ r < x2 → r = x2 → x3 = (-9) → WX mi_M_mend 6 Q 75 [some (.ref 37), some (.int x1), some (.int x2), some (.int x3), some (.int x4), some (.int x5), some (.int x6), some (.int (x7 + 1)), none, none] [] M)
    (h12 : ¬ (M.1 46 x6.toNatClampNeg) ≤ x7 → ¬ r < x2 → r = x2 → ¬ x3 = (-9) → x5 ≤ ((M.1 46 x6.toNatClampNeg) - x7) → WX mi_M_mend 6 Q 75 [some (.ref 37), some (.int x1), some (.int x2), some (.int x3), some (.int x4), some (.int x5), some (.int x6), some (.int (x7 + 1)), none, none] [] M)
    (h13 : ¬ (M.1 46 x6.toNatClampNeg) ≤ x7 → ¬ r < x2 → r = x2 → ¬ x3 = (-9) → ¬ x5 ≤ ((M.1 46 x6.toNatClampNeg) - x7) → WX mi_M_mend 6 Q 75 [some (.ref 37), some (.int x1), some (.int r), some (.int x6), some (.int x7), some (.int ((M.1 46 x6.toNatClampNeg) - x7)), some (.int x6), some (.int (x7 + 1)), none, none] [] M) :
    WX mi_M_mend 6 Q 120 [some (.ref 37), some (.int x1), some (.int x2), some (.int x3), some (.int x4), some (.int x5), some (.int x6), some (.int x7), none, none] [.int r] M := by
  refine WX.run (pc' := 131) (L' := [some (.ref 37), some (.int x1), some (.int x2), some (.int x3), some (.int x4), some (.int x5), some (.int x6), some (.int x7), some (.int r), none]) (st' := [.int (M.1 46 x6.toNatClampNeg), .int x7]) (M' := M) (P := (True ∧ vp_in x6 1257)) 6 rfl ⟨trivial, b1⟩ ?_
  refine WX.icmp_ge (off := 16) (tgt := 147) rfl rfl (fun c1 => ?_) (fun c1 => ?_)
  · refine WX.run (pc' := 162) (L' := [some (.ref 37), some (.int x1), some (.int x2), some (.int x3), some (.int x4), some (.int x5), some (.int x6), some (.int x7), some (.int r), some (.int (x7 - (M.1 46 x6.toNatClampNeg)))]) (st' := [.int x2, .int r]) (M' := M) (P := (True ∧ vp_in x6 1257)) 9 rfl ⟨trivial, (b2 c1)⟩ ?_
    refine WX.icmp_lt (off := 22) (tgt := 184) rfl rfl (fun c2 => ?_) (fun c2 => ?_)
    · refine WX.run (pc' := 75) (L' := [some (.ref 37), some (.int x1), some (.int r), some (.int x6), some (.int x7), some (.int (x7 - (M.1 46 x6.toNatClampNeg))), some (.int x6), some (.int (x7 + 1)), some (.int r), some (.int (x7 - (M.1 46 x6.toNatClampNeg)))]) (st' := []) (M' := M) (P := True) 10 rfl trivial ?_
      refine WX.forget2 (L' := [some (.ref 37), some (.int x1), some (.int r), some (.int x6), some (.int x7), some (.int (x7 - (M.1 46 x6.toNatClampNeg))), some (.int x6), some (.int (x7 + 1)), none, none]) ?_ ⟨Or.inr rfl, Or.inr rfl, Or.inr rfl, Or.inr rfl, Or.inr rfl, Or.inr rfl, Or.inr rfl, Or.inr rfl, Or.inl rfl, Or.inl rfl, trivial⟩
      exact (h3 c1 c2)
    · refine WX.run (pc' := 168) (L' := [some (.ref 37), some (.int x1), some (.int x2), some (.int x3), some (.int x4), some (.int x5), some (.int x6), some (.int x7), some (.int r), some (.int (x7 - (M.1 46 x6.toNatClampNeg)))]) (st' := [.int x2, .int r]) (M' := M) (P := True) 2 rfl trivial ?_
      refine WX.icmp_ne (off := 30) (tgt := 198) rfl rfl (fun c3 => ?_) (fun c3 => ?_)
      · refine WX.run (pc' := 75) (L' := [some (.ref 37), some (.int x1), some (.int x2), some (.int x3), some (.int x4), some (.int x5), some (.int x6), some (.int (x7 + 1)), some (.int r), some (.int (x7 - (M.1 46 x6.toNatClampNeg)))]) (st' := []) (M' := M) (P := True) 2 rfl trivial ?_
        refine WX.forget2 (L' := [some (.ref 37), some (.int x1), some (.int x2), some (.int x3), some (.int x4), some (.int x5), some (.int x6), some (.int (x7 + 1)), none, none]) ?_ ⟨Or.inr rfl, Or.inr rfl, Or.inr rfl, Or.inr rfl, Or.inr rfl, Or.inr rfl, Or.inr rfl, Or.inr rfl, Or.inl rfl, Or.inl rfl, trivial⟩
        exact (h4 c1 c2 c3)
      · refine WX.run (pc' := 174) (L' := [some (.ref 37), some (.int x1), some (.int x2), some (.int x3), some (.int x4), some (.int x5), some (.int x6), some (.int x7), some (.int r), some (.int (x7 - (M.1 46 x6.toNatClampNeg)))]) (st' := [.int (-9), .int x3]) (M' := M) (P := True) 2 rfl trivial ?_
        refine WX.icmp_eq (off := 24) (tgt := 198) rfl rfl (fun c4 => ?_) (fun c4 => ?_)
        · refine WX.run (pc' := 75) (L' := [some (.ref 37), some (.int x1), some (.int x2), some (.int x3), some (.int x4), some (.int x5), some (.int x6), some (.int (x7 + 1)), some (.int r), some (.int (x7 - (M.1 46 x6.toNatClampNeg)))]) (st' := []) (M' := M) (P := True) 2 rfl trivial ?_
          refine WX.forget2 (L' := [some (.ref 37), some (.int x1), some (.int x2), some (.int x3), some (.int x4), some (.int x5), some (.int x6), some (.int (x7 + 1)), none, none]) ?_ ⟨Or.inr rfl, Or.inr rfl, Or.inr rfl, Or.inr rfl, Or.inr rfl, Or.inr rfl, Or.inr rfl, Or.inr rfl, Or.inl rfl, Or.inl rfl, trivial⟩
          exact (h5 c1 c2 c3 c4)
        · refine WX.run (pc' := 181) (L' := [some (.ref 37), some (.int x1), some (.int x2), some (.int x3), some (.int x4), some (.int x5), some (.int x6), some (.int x7), some (.int r), some (.int (x7 - (M.1 46 x6.toNatClampNeg)))]) (st' := [.int x5, .int (x7 - (M.1 46 x6.toNatClampNeg))]) (M' := M) (P := True) 2 rfl trivial ?_
          refine WX.icmp_ge (off := 17) (tgt := 198) rfl rfl (fun c5 => ?_) (fun c5 => ?_)
          · refine WX.run (pc' := 75) (L' := [some (.ref 37), some (.int x1), some (.int x2), some (.int x3), some (.int x4), some (.int x5), some (.int x6), some (.int (x7 + 1)), some (.int r), some (.int (x7 - (M.1 46 x6.toNatClampNeg)))]) (st' := []) (M' := M) (P := True) 2 rfl trivial ?_
            refine WX.forget2 (L' := [some (.ref 37), some (.int x1), some (.int x2), some (.int x3), some (.int x4), some (.int x5), some (.int x6), some (.int (x7 + 1)), none, none]) ?_ ⟨Or.inr rfl, Or.inr rfl, Or.inr rfl, Or.inr rfl, Or.inr rfl, Or.inr rfl, Or.inr rfl, Or.inr rfl, Or.inl rfl, Or.inl rfl, trivial⟩
            exact (h6 c1 c2 c3 c4 c5)
          · refine WX.run (pc' := 75) (L' := [some (.ref 37), some (.int x1), some (.int r), some (.int x6), some (.int x7), some (.int (x7 - (M.1 46 x6.toNatClampNeg))), some (.int x6), some (.int (x7 + 1)), some (.int r), some (.int (x7 - (M.1 46 x6.toNatClampNeg)))]) (st' := []) (M' := M) (P := True) 10 rfl trivial ?_
            refine WX.forget2 (L' := [some (.ref 37), some (.int x1), some (.int r), some (.int x6), some (.int x7), some (.int (x7 - (M.1 46 x6.toNatClampNeg))), some (.int x6), some (.int (x7 + 1)), none, none]) ?_ ⟨Or.inr rfl, Or.inr rfl, Or.inr rfl, Or.inr rfl, Or.inr rfl, Or.inr rfl, Or.inr rfl, Or.inr rfl, Or.inl rfl, Or.inl rfl, trivial⟩
            exact (h7 c1 c2 c3 c4 c5)
  · refine WX.run (pc' := 162) (L' := [some (.ref 37), some (.int x1), some (.int x2), some (.int x3), some (.int x4), some (.int x5), some (.int x6), some (.int x7), some (.int r), some (.int ((M.1 46 x6.toNatClampNeg) - x7))]) (st' := [.int x2, .int r]) (M' := M) (P := (True ∧ vp_in x6 1257)) 10 rfl ⟨trivial, (b8 c1)⟩ ?_
    refine WX.icmp_lt (off := 22) (tgt := 184) rfl rfl (fun c6 => ?_) (fun c6 => ?_)
    · refine WX.run (pc' := 75) (L' := [some (.ref 37), some (.int x1), some (.int r), some (.int x6), some (.int x7), some (.int ((M.1 46 x6.toNatClampNeg) - x7)), some (.int x6), some (.int (x7 + 1)), some (.int r), some (.int ((M.1 46 x6.toNatClampNeg) - x7))]) (st' := []) (M' := M) (P := True) 10 rfl trivial ?_
      refine WX.forget2 (L' := [some (.ref 37), some (.int x1), some (.int r), some (.int x6), some (.int x7), some (.int ((M.1 46 x6.toNatClampNeg) - x7)), some (.int x6), some (.int (x7 + 1)), none, none]) ?_ ⟨Or.inr rfl, Or.inr rfl, Or.inr rfl, Or.inr rfl, Or.inr rfl, Or.inr rfl, Or.inr rfl, Or.inr rfl, Or.inl rfl, Or.inl rfl, trivial⟩
      exact (h9 c1 c6)
    · refine WX.run (pc' := 168) (L' := [some (.ref 37), some (.int x1), some (.int x2), some (.int x3), some (.int x4), some (.int x5), some (.int x6), some (.int x7), some (.int r), some (.int ((M.1 46 x6.toNatClampNeg) - x7))]) (st' := [.int x2, .int r]) (M' := M) (P := True) 2 rfl trivial ?_
      refine WX.icmp_ne (off := 30) (tgt := 198) rfl rfl (fun c7 => ?_) (fun c7 => ?_)
      · refine WX.run (pc' := 75) (L' := [some (.ref 37), some (.int x1), some (.int x2), some (.int x3), some (.int x4), some (.int x5), some (.int x6), some (.int (x7 + 1)), some (.int r), some (.int ((M.1 46 x6.toNatClampNeg) - x7))]) (st' := []) (M' := M) (P := True) 2 rfl trivial ?_
        refine WX.forget2 (L' := [some (.ref 37), some (.int x1), some (.int x2), some (.int x3), some (.int x4), some (.int x5), some (.int x6), some (.int (x7 + 1)), none, none]) ?_ ⟨Or.inr rfl, Or.inr rfl, Or.inr rfl, Or.inr rfl, Or.inr rfl, Or.inr rfl, Or.inr rfl, Or.inr rfl, Or.inl rfl, Or.inl rfl, trivial⟩
        exact (h10 c1 c6 c7)
      · refine WX.run (pc' := 174) (L' := [some (.ref 37), some (.int x1), some (.int x2), some (.int x3), some (.int x4), some (.int x5), some (.int x6), some (.int x7), some (.int r), some (.int ((M.1 46 x6.toNatClampNeg) - x7))]) (st' := [.int (-9), .int x3]) (M' := M) (P := True) 2 rfl trivial ?_
        refine WX.icmp_eq (off := 24) (tgt := 198) rfl rfl (fun c8 => ?_) (fun c8 => ?_)
        · refine WX.run (pc' := 75) (L' := [some (.ref 37), some (.int x1), some (.int x2), some (.int x3), some (.int x4), some (.int x5), some (.int x6), some (.int (x7 + 1)), some (.int r), some (.int ((M.1 46 x6.toNatClampNeg) - x7))]) (st' := []) (M' := M) (P := True) 2 rfl trivial ?_
          refine WX.forget2 (L' := [some (.ref 37), some (.int x1), some (.int x2), some (.int x3), some (.int x4), some (.int x5), some (.int x6), some (.int (x7 + 1)), none, none]) ?_ ⟨Or.inr rfl, Or.inr rfl, Or.inr rfl, Or.inr rfl, Or.inr rfl, Or.inr rfl, Or.inr rfl, Or.inr rfl, Or.inl rfl, Or.inl rfl, trivial⟩
          exact (h11 c1 c6 c7 c8)
        · refine WX.run (pc' := 181) (L' := [some (.ref 37), some (.int x1), some (.int x2), some (.int x3), some (.int x4), some (.int x5), some (.int x6), some (.int x7), some (.int r), some (.int ((M.1 46 x6.toNatClampNeg) - x7))]) (st' := [.int x5, .int ((M.1 46 x6.toNatClampNeg) - x7)]) (M' := M) (P := True) 2 rfl trivial ?_
          refine WX.icmp_ge (off := 17) (tgt := 198) rfl rfl (fun c9 => ?_) (fun c9 => ?_)
          · refine WX.run (pc' := 75) (L' := [some (.ref 37), some (.int x1), some (.int x2), some (.int x3), some (.int x4), some (.int x5), some (.int x6), some (.int (x7 + 1)), some (.int r), some (.int ((M.1 46 x6.toNatClampNeg) - x7))]) (st' := []) (M' := M) (P := True) 2 rfl trivial ?_
            refine WX.forget2 (L' := [some (.ref 37), some (.int x1), some (.int x2), some (.int x3), some (.int x4), some (.int x5), some (.int x6), some (.int (x7 + 1)), none, none]) ?_ ⟨Or.inr rfl, Or.inr rfl, Or.inr rfl, Or.inr rfl, Or.inr rfl, Or.inr rfl, Or.inr rfl, Or.inr rfl, Or.inl rfl, Or.inl rfl, trivial⟩
            exact (h12 c1 c6 c7 c8 c9)
          · refine WX.run (pc' := 75) (L' := [some (.ref 37), some (.int x1), some (.int r), some (.int x6), some (.int x7), some (.int ((M.1 46 x6.toNatClampNeg) - x7)), some (.int x6), some (.int (x7 + 1)), some (.int r), some (.int ((M.1 46 x6.toNatClampNeg) - x7))]) (st' := []) (M' := M) (P := True) 10 rfl trivial ?_
            refine WX.forget2 (L' := [some (.ref 37), some (.int x1), some (.int r), some (.int x6), some (.int x7), some (.int ((M.1 46 x6.toNatClampNeg) - x7)), some (.int x6), some (.int (x7 + 1)), none, none]) ?_ ⟨Or.inr rfl, Or.inr rfl, Or.inr rfl, Or.inr rfl, Or.inr rfl, Or.inr rfl, Or.inr rfl, Or.inr rfl, Or.inl rfl, Or.inl rfl, trivial⟩
            exact (h13 c1 c6 c7 c8 c9)
theorem sg_M_plan_37_0 {Q : Option Value → Mem → Prop} (M : Mem) (x1 : Int32)
    (h1 : x1 = (-1) → WX mi_M_findPlan 5 (fun rv M' => WX mi_M_plan 6 Q 29 [some (.ref 37), some (.int x1)] (rv.toList ++ []) M') 0 [some (.ref 37), none, none, none, none, none] [] M)
    (h2 : ¬ x1 = (-1) → (z_M_in x1 0 15) = 0 → Q (some (.int (-1))) M)
    (b3 : ¬ x1 = (-1) → ¬ (z_M_in x1 0 15) = 0 → ((z_M_isCell_37 M (rem x1 4) (x1 / 4)) = 0 ∨ (z_M_isCell_37 M (rem x1 4) (x1 / 4)) = 1))
    (h4 : ¬ x1 = (-1) → ¬ (z_M_in x1 0 15) = 0 → ¬ (z_M_isThere_37 M x1) = 0 → WX mi_M_findPlan 5 (fun rv M' => WX mi_M_plan 6 Q 29 [some (.ref 37), some (.int x1)] (rv.toList ++ []) M') 0 [some (.ref 37), none, none, none, none, none] [] M)
    (h5 : ¬ x1 = (-1) → ¬ (z_M_in x1 0 15) = 0 → (z_M_isThere_37 M x1) = 0 → Q (some (.int (-1))) M) :
    WX mi_M_plan 6 Q 0 [some (.ref 37), some (.int x1)] [] M := by
  refine WX.run (pc' := 2) (L' := [some (.ref 37), some (.int x1)]) (st' := [.int (-1), .int x1]) (M' := M) (P := True) 2 rfl trivial ?_
  refine WX.icmp_eq (off := 23) (tgt := 25) rfl rfl (fun c1 => ?_) (fun c1 => ?_)
  · refine WX.run (pc' := 26) (L' := [some (.ref 37), some (.int x1)]) (st' := [.ref 37]) (M' := M) (P := True) 1 rfl trivial ?_
    refine WX.callV (ca := mi_M_findPlan) (n := 0) (d' := 5) (st := []) (As := []) (q := 37) rfl lk_7_215 ck_M_findPlan cv_M_findPlan rfl (by decide) rfl (by decide) ⟨by decide, rfl, by decide⟩ (fun w hw => absurd hw List.not_mem_nil) (by decide) ?_
    exact (h1 c1)
  · refine WX.run (pc' := 9) (L' := [some (.ref 37), some (.int x1)]) (st' := [.int 15, .int 0, .int x1]) (M' := M) (P := True) 3 rfl trivial ?_
    refine WX.callS (ca := mi_M_in) (n := 3) (d' := 1) (st := []) (As := [.int x1, .int 0, .int 15]) rfl lk_7_72 ck_M_in cs_M_in rfl (by decide) rfl (by decide) (by intro w hw; simp only [List.mem_cons, List.not_mem_nil, or_false] at hw; rcases hw with rfl | rfl | rfl <;> rfl) (by decide) ?_
    refine wx_M_in M x1 0 15 ?_
    show WX mi_M_plan 6 Q 12 [some (.ref 37), some (.int x1)] [.int (z_M_in x1 0 15)] M
    refine WX.if_eq (off := 11) (tgt := 23) rfl rfl (fun c2 => ?_) (fun c2 => ?_)
    · refine WX.run (pc' := 24) (L' := [some (.ref 37), some (.int x1)]) (st' := [.int (-1)]) (M' := M) (P := True) 1 rfl trivial ?_
      exact WX.iret rfl rfl (h2 c1 c2)
    · refine WX.run (pc' := 17) (L' := [some (.ref 37), some (.int x1)]) (st' := [.int x1, .ref 37]) (M' := M) (P := True) 2 rfl trivial ?_
      refine WX.callV (ca := mi_M_isThere) (n := 1) (d' := 3) (st := []) (As := [.int x1]) (q := 37) rfl lk_7_148 ck_M_isThere cv_M_isThere rfl (by decide) rfl (by decide) ⟨by decide, rfl, by decide⟩ (by intro w hw; simp only [List.mem_cons, List.not_mem_nil, or_false] at hw; rcases hw with rfl <;> rfl) (by decide) ?_
      refine wx_M_isThere_37 M x1 (b3 c1 c2) ?_
      show WX mi_M_plan 6 Q 20 [some (.ref 37), some (.int x1)] [.int (z_M_isThere_37 M x1)] M
      refine WX.if_ne (off := 5) (tgt := 25) rfl rfl (fun c3 => ?_) (fun c3 => ?_)
      · refine WX.run (pc' := 26) (L' := [some (.ref 37), some (.int x1)]) (st' := [.ref 37]) (M' := M) (P := True) 1 rfl trivial ?_
        refine WX.callV (ca := mi_M_findPlan) (n := 0) (d' := 5) (st := []) (As := []) (q := 37) rfl lk_7_215 ck_M_findPlan cv_M_findPlan rfl (by decide) rfl (by decide) ⟨by decide, rfl, by decide⟩ (fun w hw => absurd hw List.not_mem_nil) (by decide) ?_
        exact (h4 c1 c2 c3)
      · refine WX.run (pc' := 24) (L' := [some (.ref 37), some (.int x1)]) (st' := [.int (-1)]) (M' := M) (P := True) 1 rfl trivial ?_
        exact WX.iret rfl rfl (h5 c1 c2 c3)
theorem sg_M_plan_37_29 {Q : Option Value → Mem → Prop} (M : Mem) (x1 : Int32)
    (h1 : x1 = (-1) → Q (some (.int (M.1 37 26))) M)
    (b2 : ¬ x1 = (-1) → ¬ (M.1 37 26) = (-9) → vp_in x1 16)
    (h3 : ¬ x1 = (-1) → ¬ (M.1 37 26) = (-9) → Q (some (.int (M.1 53 x1.toNatClampNeg))) M)
    (h4 : ¬ x1 = (-1) → (M.1 37 26) = (-9) → Q (some (.int (M.1 37 26))) M) :
    WX mi_M_plan 6 Q 29 [some (.ref 37), some (.int x1)] [] M := by
  refine WX.run (pc' := 31) (L' := [some (.ref 37), some (.int x1)]) (st' := [.int (-1), .int x1]) (M' := M) (P := True) 2 rfl trivial ?_
  refine WX.icmp_eq (off := 12) (tgt := 43) rfl rfl (fun c1 => ?_) (fun c1 => ?_)
  · refine WX.run (pc' := 56) (L' := [some (.ref 37), some (.int x1)]) (st' := [.int (M.1 37 26)]) (M' := M) (P := True) 3 rfl trivial ?_
    exact WX.iret rfl rfl (h1 c1)
  · refine WX.run (pc' := 40) (L' := [some (.ref 37), some (.int x1)]) (st' := [.int (-9), .int (M.1 37 26)]) (M' := M) (P := True) 3 rfl trivial ?_
    refine WX.icmp_ne (off := 10) (tgt := 50) rfl rfl (fun c2 => ?_) (fun c2 => ?_)
    · refine WX.run (pc' := 56) (L' := [some (.ref 37), some (.int x1)]) (st' := [.int (M.1 53 x1.toNatClampNeg)]) (M' := M) (P := (True ∧ vp_in x1 16)) 4 rfl ⟨trivial, (b2 c1 c2)⟩ ?_
      exact WX.iret rfl rfl (h3 c1 c2)
    · refine WX.run (pc' := 56) (L' := [some (.ref 37), some (.int x1)]) (st' := [.int (M.1 37 26)]) (M' := M) (P := True) 3 rfl trivial ?_
      exact WX.iret rfl rfl (h4 c1 c2)
theorem sg_M_barrow_37_0 {Q : Option Value → Mem → Prop} (M : Mem) (x1 x2 : Int32)
    (h1 : ¬ (z_M_isDryAt_37 M x1 x2) = 0 → WX mi_M_barrow 6 Q 20 [some (.ref 37), some (.int x1), some (.int x2), some (.int ((4 * x2) + x1)), some (.int 0), none, none, none, none] [] M)
    (h2 : (z_M_isDryAt_37 M x1 x2) = 0 → Q (some (.int (-1))) M) :
    WX mi_M_barrow 6 Q 0 [some (.ref 37), some (.int x1), some (.int x2), none, none, none, none, none, none] [] M := by
  refine WX.run (pc' := 3) (L' := [some (.ref 37), some (.int x1), some (.int x2), none, none, none, none, none, none]) (st' := [.int x2, .int x1, .ref 37]) (M' := M) (P := True) 3 rfl trivial ?_
  refine WX.callV (ca := mi_M_isDryAt) (n := 2) (d' := 3) (st := []) (As := [.int x1, .int x2]) (q := 37) rfl lk_7_200 ck_M_isDryAt cv_M_isDryAt rfl (by decide) rfl (by decide) ⟨by decide, rfl, by decide⟩ (by intro w hw; simp only [List.mem_cons, List.not_mem_nil, or_false] at hw; rcases hw with rfl | rfl <;> rfl) (by decide) ?_
  refine wx_M_isDryAt_37 M x1 x2 ?_
  show WX mi_M_barrow 6 Q 6 [some (.ref 37), some (.int x1), some (.int x2), none, none, none, none, none, none] [.int (z_M_isDryAt_37 M x1 x2)] M
  refine WX.if_ne (off := 5) (tgt := 11) rfl rfl (fun c1 => ?_) (fun c1 => ?_)
  · refine WX.run (pc' := 20) (L' := [some (.ref 37), some (.int x1), some (.int x2), some (.int ((4 * x2) + x1)), some (.int 0), none, none, none, none]) (st' := []) (M' := M) (P := True) 8 rfl trivial ?_
    exact (h1 c1)
  · refine WX.run (pc' := 10) (L' := [some (.ref 37), some (.int x1), some (.int x2), none, none, none, none, none, none]) (st' := [.int (-1)]) (M' := M) (P := True) 1 rfl trivial ?_
    exact WX.iret rfl rfl (h2 c1)
theorem sg_M_barrow_37_20 {Q : Option Value → Mem → Prop} (M : Mem) (x1 x2 x3 x4 : Int32)
    (h1 : 16 ≤ x4 → WX mi_M_barrow 6 Q 70 [some (.ref 37), some (.int x1), some (.int x2), some (.int x3), some (.int 1), none, none, none, none] [] M)
    (b2 : ¬ 16 ≤ x4 → ¬ x4 = (M.1 43 0) → vp_in x4 16)
    (h3 : ¬ 16 ≤ x4 → ¬ x4 = (M.1 43 0) → WX mi_M_barrow 6 Q 20 [some (.ref 37), some (.int x1), some (.int x2), some (.int x3), some (.int (x4 + 1)), none, none, none, none] [] (wr M 54 x4.toNatClampNeg 1000))
    (b4 : ¬ 16 ≤ x4 → x4 = (M.1 43 0) → ((z_M_isCell_37 M (rem x4 4) (x4 / 4)) = 0 ∨ (z_M_isCell_37 M (rem x4 4) (x4 / 4)) = 1))
    (b5 : ¬ 16 ≤ x4 → x4 = (M.1 43 0) → (z_M_isFirm_37 M x4) = 0 → vp_in x4 16)
    (h6 : ¬ 16 ≤ x4 → x4 = (M.1 43 0) → (z_M_isFirm_37 M x4) = 0 → WX mi_M_barrow 6 Q 20 [some (.ref 37), some (.int x1), some (.int x2), some (.int x3), some (.int (x4 + 1)), none, none, none, none] [] (wr M 54 x4.toNatClampNeg 1000))
    (b7 : ¬ 16 ≤ x4 → x4 = (M.1 43 0) → ¬ (z_M_isFirm_37 M x4) = 0 → vp_in x4 16)
    (h8 : ¬ 16 ≤ x4 → x4 = (M.1 43 0) → ¬ (z_M_isFirm_37 M x4) = 0 → WX mi_M_barrow 6 Q 20 [some (.ref 37), some (.int x1), some (.int x2), some (.int x3), some (.int (x4 + 1)), none, none, none, none] [] (wr M 54 x4.toNatClampNeg 0)) :
    WX mi_M_barrow 6 Q 20 [some (.ref 37), some (.int x1), some (.int x2), some (.int x3), some (.int x4), none, none, none, none] [] M := by
  refine WX.run (pc' := 24) (L' := [some (.ref 37), some (.int x1), some (.int x2), some (.int x3), some (.int x4), none, none, none, none]) (st' := [.int 16, .int x4]) (M' := M) (P := True) 2 rfl trivial ?_
  refine WX.icmp_ge (off := 43) (tgt := 67) rfl rfl (fun c1 => ?_) (fun c1 => ?_)
  · refine WX.run (pc' := 70) (L' := [some (.ref 37), some (.int x1), some (.int x2), some (.int x3), some (.int 1), none, none, none, none]) (st' := []) (M' := M) (P := True) 2 rfl trivial ?_
    exact (h1 c1)
  · refine WX.run (pc' := 41) (L' := [some (.ref 37), some (.int x1), some (.int x2), some (.int x3), some (.int x4), none, none, none, none]) (st' := [.int (M.1 43 0), .int x4, .int x4, .ref 54]) (M' := M) (P := (True ∧ vp_in 0 2)) 8 rfl ⟨trivial, (vp_lit rfl)⟩ ?_
    refine WX.icmp_ne (off := 16) (tgt := 57) rfl rfl (fun c2 => ?_) (fun c2 => ?_)
    · refine WX.run (pc' := 20) (L' := [some (.ref 37), some (.int x1), some (.int x2), some (.int x3), some (.int (x4 + 1)), none, none, none, none]) (st' := []) (M' := (wr M 54 x4.toNatClampNeg 1000)) (P := (True ∧ vp_in x4 16)) 4 rfl ⟨trivial, (b2 c1 c2)⟩ ?_
      exact (h3 c1 c2)
    · refine WX.run (pc' := 47) (L' := [some (.ref 37), some (.int x1), some (.int x2), some (.int x3), some (.int x4), none, none, none, none]) (st' := [.int x4, .ref 37, .int x4, .ref 54]) (M' := M) (P := True) 2 rfl trivial ?_
      refine WX.callV (ca := mi_M_isFirm) (n := 1) (d' := 5) (st := [.int x4, .ref 54]) (As := [.int x4]) (q := 37) rfl lk_7_218 ck_M_isFirm cv_M_isFirm rfl (by decide) rfl (by decide) ⟨by decide, rfl, by decide⟩ (by intro w hw; simp only [List.mem_cons, List.not_mem_nil, or_false] at hw; rcases hw with rfl <;> rfl) (by decide) ?_
      refine wx_M_isFirm_37 M x4 (b4 c1 c2) ?_
      show WX mi_M_barrow 6 Q 50 [some (.ref 37), some (.int x1), some (.int x2), some (.int x3), some (.int x4), none, none, none, none] [.int (z_M_isFirm_37 M x4), .int x4, .ref 54] M
      refine WX.if_eq (off := 7) (tgt := 57) rfl rfl (fun c3 => ?_) (fun c3 => ?_)
      · refine WX.run (pc' := 20) (L' := [some (.ref 37), some (.int x1), some (.int x2), some (.int x3), some (.int (x4 + 1)), none, none, none, none]) (st' := []) (M' := (wr M 54 x4.toNatClampNeg 1000)) (P := (True ∧ vp_in x4 16)) 4 rfl ⟨trivial, (b5 c1 c2 c3)⟩ ?_
        exact (h6 c1 c2 c3)
      · refine WX.run (pc' := 20) (L' := [some (.ref 37), some (.int x1), some (.int x2), some (.int x3), some (.int (x4 + 1)), none, none, none, none]) (st' := []) (M' := (wr M 54 x4.toNatClampNeg 0)) (P := (True ∧ vp_in x4 16)) 5 rfl ⟨trivial, (b7 c1 c2 c3)⟩ ?_
        exact (h8 c1 c2 c3)
theorem sg_M_barrow_37_70 {Q : Option Value → Mem → Prop} (M : Mem) (x1 x2 x3 x4 : Int32)
    (b1 : x4 = 0 → vp_in x3 16)
    (b2 : x4 = 0 → (M.1 54 x3.toNatClampNeg) < 1000 → vp_in x3 16)
    (h3 : x4 = 0 → (M.1 54 x3.toNatClampNeg) < 1000 → Q (some (.int (M.1 54 x3.toNatClampNeg))) M)
    (h4 : x4 = 0 → ¬ (M.1 54 x3.toNatClampNeg) < 1000 → Q (some (.int (-9))) M)
    (h5 : ¬ x4 = 0 → WX mi_M_barrow 6 Q 81 [some (.ref 37), some (.int x1), some (.int x2), some (.int x3), some (.int 0), some (.int 0), none, none, none] [] M) :
    WX mi_M_barrow 6 Q 70 [some (.ref 37), some (.int x1), some (.int x2), some (.int x3), some (.int x4), none, none, none, none] [] M := by
  refine WX.run (pc' := 72) (L' := [some (.ref 37), some (.int x1), some (.int x2), some (.int x3), some (.int x4), none, none, none, none]) (st' := [.int x4]) (M' := M) (P := True) 1 rfl trivial ?_
  refine WX.if_eq (off := 175) (tgt := 247) rfl rfl (fun c1 => ?_) (fun c1 => ?_)
  · refine WX.run (pc' := 256) (L' := [some (.ref 37), some (.int x1), some (.int x2), some (.int x3), some (.int x4), none, none, none, none]) (st' := [.int 1000, .int (M.1 54 x3.toNatClampNeg)]) (M' := M) (P := (True ∧ vp_in x3 16)) 5 rfl ⟨trivial, (b1 c1)⟩ ?_
    refine WX.icmp_lt (off := 8) (tgt := 264) rfl rfl (fun c2 => ?_) (fun c2 => ?_)
    · refine WX.run (pc' := 270) (L' := [some (.ref 37), some (.int x1), some (.int x2), some (.int x3), some (.int x4), none, none, none, none]) (st' := [.int (M.1 54 x3.toNatClampNeg)]) (M' := M) (P := (True ∧ vp_in x3 16)) 4 rfl ⟨trivial, (b2 c1 c2)⟩ ?_
      exact WX.iret rfl rfl (h3 c1 c2)
    · refine WX.run (pc' := 270) (L' := [some (.ref 37), some (.int x1), some (.int x2), some (.int x3), some (.int x4), none, none, none, none]) (st' := [.int (-9)]) (M' := M) (P := True) 2 rfl trivial ?_
      exact WX.iret rfl rfl (h4 c1 c2)
  · refine WX.run (pc' := 81) (L' := [some (.ref 37), some (.int x1), some (.int x2), some (.int x3), some (.int 0), some (.int 0), none, none, none]) (st' := []) (M' := M) (P := True) 4 rfl trivial ?_
    exact (h5 c1)
theorem sg_M_barrow_37_81 {Q : Option Value → Mem → Prop} (M : Mem) (x1 x2 x3 x4 x5 : Int32)
    (h1 : 16 ≤ x5 → WX mi_M_barrow 6 Q 70 [some (.ref 37), some (.int x1), some (.int x2), some (.int x3), some (.int x4), none, none, none, none] [] M)
    (h2 : ¬ 16 ≤ x5 → WX mi_M_barrow 6 Q 91 [some (.ref 37), some (.int x1), some (.int x2), some (.int x3), some (.int x4), some (.int x5), some (.int 0), none, none] [] M) :
    WX mi_M_barrow 6 Q 81 [some (.ref 37), some (.int x1), some (.int x2), some (.int x3), some (.int x4), some (.int x5), none, none, none] [] M := by
  refine WX.run (pc' := 85) (L' := [some (.ref 37), some (.int x1), some (.int x2), some (.int x3), some (.int x4), some (.int x5), none, none, none]) (st' := [.int 16, .int x5]) (M' := M) (P := True) 2 rfl trivial ?_
  refine WX.icmp_ge (off := 159) (tgt := 244) rfl rfl (fun c1 => ?_) (fun c1 => ?_)
  · refine WX.run (pc' := 70) (L' := [some (.ref 37), some (.int x1), some (.int x2), some (.int x3), some (.int x4), some (.int x5), none, none, none]) (st' := []) (M' := M) (P := True) 1 rfl trivial ?_
    refine WX.forget2 (L' := [some (.ref 37), some (.int x1), some (.int x2), some (.int x3), some (.int x4), none, none, none, none]) ?_ ⟨Or.inr rfl, Or.inr rfl, Or.inr rfl, Or.inr rfl, Or.inr rfl, Or.inl rfl, Or.inr rfl, Or.inr rfl, Or.inr rfl, trivial⟩
    exact (h1 c1)
  · refine WX.run (pc' := 91) (L' := [some (.ref 37), some (.int x1), some (.int x2), some (.int x3), some (.int x4), some (.int x5), some (.int 0), none, none]) (st' := []) (M' := M) (P := True) 2 rfl trivial ?_
    exact (h2 c1)
theorem sg_M_barrow_37_91 {Q : Option Value → Mem → Prop} (M : Mem) (x1 x2 x3 x4 x5 x6 : Int32)
    (h1 : 4 ≤ x6 → WX mi_M_barrow 6 Q 81 [some (.ref 37), some (.int x1), some (.int x2), some (.int x3), some (.int x4), some (.int (x5 + 1)), none, none, none] [] M)
    (b2 : ¬ 4 ≤ x6 → ((z_M_isCell_37 M (rem x5 4) (x5 / 4)) = 0 ∨ (z_M_isCell_37 M (rem x5 4) (x5 / 4)) = 1))
    (h3 : ¬ 4 ≤ x6 → (z_M_isThere_37 M x5) = 0 → WX mi_M_barrow 6 Q 81 [some (.ref 37), some (.int x1), some (.int x2), some (.int x3), some (.int x4), some (.int (x5 + 1)), none, none, none] [] M)
    (b4 : ¬ 4 ≤ x6 → ¬ (z_M_isThere_37 M x5) = 0 → ((z_M_isCell_37 M (rem x5 4) (x5 / 4)) = 0 ∨ (z_M_isCell_37 M (rem x5 4) (x5 / 4)) = 1))
    (b5 : ¬ 4 ≤ x6 → ¬ (z_M_isThere_37 M x5) = 0 → ¬ (z_M_isFirm_37 M x5) = 0 → (z_M_beside_37 M x5 x6) = (-9) → 0 = 0 → vp_in x5 16)
    (h6 : ¬ 4 ≤ x6 → ¬ (z_M_isThere_37 M x5) = 0 → ¬ (z_M_isFirm_37 M x5) = 0 → (z_M_beside_37 M x5 x6) = (-9) → 0 = 0 → ¬ x4 = 0 → WX mi_M_barrow 6 Q 91 [some (.ref 37), some (.int x1), some (.int x2), some (.int x3), some (.int 1), some (.int x5), some (.int (x6 + 1)), none, none] [] (wr M 54 x5.toNatClampNeg (M.1 54 x5.toNatClampNeg)))
    (h7 : ¬ 4 ≤ x6 → ¬ (z_M_isThere_37 M x5) = 0 → ¬ (z_M_isFirm_37 M x5) = 0 → (z_M_beside_37 M x5 x6) = (-9) → 0 = 0 → x4 = 0 → 0 = 0 → WX mi_M_barrow 6 Q 91 [some (.ref 37), some (.int x1), some (.int x2), some (.int x3), some (.int 0), some (.int x5), some (.int (x6 + 1)), none, none] [] (wr M 54 x5.toNatClampNeg (M.1 54 x5.toNatClampNeg)))
    (h8 : ¬ 4 ≤ x6 → ¬ (z_M_isThere_37 M x5) = 0 → ¬ (z_M_isFirm_37 M x5) = 0 → (z_M_beside_37 M x5 x6) = (-9) → 0 = 0 → x4 = 0 → ¬ 0 = 0 → WX mi_M_barrow 6 Q 91 [some (.ref 37), some (.int x1), some (.int x2), some (.int x3), some (.int 1), some (.int x5), some (.int (x6 + 1)), none, none] [] (wr M 54 x5.toNatClampNeg (M.1 54 x5.toNatClampNeg)))
    (b9 : ¬ 4 ≤ x6 → ¬ (z_M_isThere_37 M x5) = 0 → ¬ (z_M_isFirm_37 M x5) = 0 → (z_M_beside_37 M x5 x6) = (-9) → ¬ 0 = 0 → vp_in (z_M_beside_37 M x5 x6) 16)
    (b10 : ¬ 4 ≤ x6 → ¬ (z_M_isThere_37 M x5) = 0 → ¬ (z_M_isFirm_37 M x5) = 0 → (z_M_beside_37 M x5 x6) = (-9) → ¬ 0 = 0 → vp_in x5 16)
    (h11 : ¬ 4 ≤ x6 → ¬ (z_M_isThere_37 M x5) = 0 → ¬ (z_M_isFirm_37 M x5) = 0 → (z_M_beside_37 M x5 x6) = (-9) → ¬ 0 = 0 → ¬ x4 = 0 → WX mi_M_barrow 6 Q 91 [some (.ref 37), some (.int x1), some (.int x2), some (.int x3), some (.int 1), some (.int x5), some (.int (x6 + 1)), none, none] [] (wr M 54 x5.toNatClampNeg ((M.1 54 (z_M_beside_37 M x5 x6).toNatClampNeg) + 1)))
    (h12 : ¬ 4 ≤ x6 → ¬ (z_M_isThere_37 M x5) = 0 → ¬ (z_M_isFirm_37 M x5) = 0 → (z_M_beside_37 M x5 x6) = (-9) → ¬ 0 = 0 → x4 = 0 → 0 = 0 → WX mi_M_barrow 6 Q 91 [some (.ref 37), some (.int x1), some (.int x2), some (.int x3), some (.int 0), some (.int x5), some (.int (x6 + 1)), none, none] [] (wr M 54 x5.toNatClampNeg ((M.1 54 (z_M_beside_37 M x5 x6).toNatClampNeg) + 1)))
    (h13 : ¬ 4 ≤ x6 → ¬ (z_M_isThere_37 M x5) = 0 → ¬ (z_M_isFirm_37 M x5) = 0 → (z_M_beside_37 M x5 x6) = (-9) → ¬ 0 = 0 → x4 = 0 → ¬ 0 = 0 → WX mi_M_barrow 6 Q 91 [some (.ref 37), some (.int x1), some (.int x2), some (.int x3), some (.int 1), some (.int x5), some (.int (x6 + 1)), none, none] [] (wr M 54 x5.toNatClampNeg ((M.1 54 (z_M_beside_37 M x5 x6).toNatClampNeg) + 1)))
    (b14 : ¬ 4 ≤ x6 → ¬ (z_M_isThere_37 M x5) = 0 → ¬ (z_M_isFirm_37 M x5) = 0 → ¬ (z_M_beside_37 M x5 x6) = (-9) → x5 = (M.1 43 0) → 0 = 0 → vp_in x5 16)
    (h15 : ¬ 4 ≤ x6 → ¬ (z_M_isThere_37 M x5) = 0 → ¬ (z_M_isFirm_37 M x5) = 0 → ¬ (z_M_beside_37 M x5 x6) = (-9) → x5 = (M.1 43 0) → 0 = 0 → ¬ x4 = 0 → WX mi_M_barrow 6 Q 91 [some (.ref 37), some (.int x1), some (.int x2), some (.int x3), some (.int 1), some (.int x5), some (.int (x6 + 1)), none, none] [] (wr M 54 x5.toNatClampNeg (M.1 54 x5.toNatClampNeg)))
    (h16 : ¬ 4 ≤ x6 → ¬ (z_M_isThere_37 M x5) = 0 → ¬ (z_M_isFirm_37 M x5) = 0 → ¬ (z_M_beside_37 M x5 x6) = (-9) → x5 = (M.1 43 0) → 0 = 0 → x4 = 0 → 0 = 0 → WX mi_M_barrow 6 Q 91 [some (.ref 37), some (.int x1), some (.int x2), some (.int x3), some (.int 0), some (.int x5), some (.int (x6 + 1)), none, none] [] (wr M 54 x5.toNatClampNeg (M.1 54 x5.toNatClampNeg)))
    (h17 : ¬ 4 ≤ x6 → ¬ (z_M_isThere_37 M x5) = 0 → ¬ (z_M_isFirm_37 M x5) = 0 → ¬ (z_M_beside_37 M x5 x6) = (-9) → x5 = (M.1 43 0) → 0 = 0 → x4 = 0 → ¬ 0 = 0 → WX mi_M_barrow 6 Q 91 [some (.ref 37), some (.int x1), some (.int x2), some (.int x3), some (.int 1), some (.int x5), some (.int (x6 + 1)), none, none] [] (wr M 54 x5.toNatClampNeg (M.1 54 x5.toNatClampNeg)))
    (b18 : ¬ 4 ≤ x6 → ¬ (z_M_isThere_37 M x5) = 0 → ¬ (z_M_isFirm_37 M x5) = 0 → ¬ (z_M_beside_37 M x5 x6) = (-9) → x5 = (M.1 43 0) → ¬ 0 = 0 → vp_in (z_M_beside_37 M x5 x6) 16)
    (b19 : ¬ 4 ≤ x6 → ¬ (z_M_isThere_37 M x5) = 0 → ¬ (z_M_isFirm_37 M x5) = 0 → ¬ (z_M_beside_37 M x5 x6) = (-9) → x5 = (M.1 43 0) → ¬ 0 = 0 → vp_in x5 16)
    (h20 : ¬ 4 ≤ x6 → ¬ (z_M_isThere_37 M x5) = 0 → ¬ (z_M_isFirm_37 M x5) = 0 → ¬ (z_M_beside_37 M x5 x6) = (-9) → x5 = (M.1 43 0) → ¬ 0 = 0 → ¬ x4 = 0 → WX mi_M_barrow 6 Q 91 [some (.ref 37), some (.int x1), some (.int x2), some (.int x3), some (.int 1), some (.int x5), some (.int (x6 + 1)), none, none] [] (wr M 54 x5.toNatClampNeg ((M.1 54 (z_M_beside_37 M x5 x6).toNatClampNeg) + 1)))
    (h21 : ¬ 4 ≤ x6 → ¬ (z_M_isThere_37 M x5) = 0 → ¬ (z_M_isFirm_37 M x5) = 0 → ¬ (z_M_beside_37 M x5 x6) = (-9) → x5 = (M.1 43 0) → ¬ 0 = 0 → x4 = 0 → 0 = 0 → WX mi_M_barrow 6 Q 91 [some (.ref 37), some (.int x1), some (.int x2), some (.int x3), some (.int 0), some (.int x5), some (.int (x6 + 1)), none, none] [] (wr M 54 x5.toNatClampNeg ((M.1 54 (z_M_beside_37 M x5 x6).toNatClampNeg) + 1)))
    (h22 : ¬ 4 ≤ x6 → ¬ (z_M_isThere_37 M x5) = 0 → ¬ (z_M_isFirm_37 M x5) = 0 → ¬ (z_M_beside_37 M x5 x6) = (-9) → x5 = (M.1 43 0) → ¬ 0 = 0 → x4 = 0 → ¬ 0 = 0 → WX mi_M_barrow 6 Q 91 [some (.ref 37), some (.int x1), some (.int x2), some (.int x3), some (.int 1), some (.int x5), some (.int (x6 + 1)), none, none] [] (wr M 54 x5.toNatClampNeg ((M.1 54 (z_M_beside_37 M x5 x6).toNatClampNeg) + 1)))
    (b23 : ¬ 4 ≤ x6 → ¬ (z_M_isThere_37 M x5) = 0 → ¬ (z_M_isFirm_37 M x5) = 0 → ¬ (z_M_beside_37 M x5 x6) = (-9) → ¬ x5 = (M.1 43 0) → ((z_M_isCell_37 M (rem (z_M_beside_37 M x5 x6) 4) ((z_M_beside_37 M x5 x6) / 4)) = 0 ∨ (z_M_isCell_37 M (rem (z_M_beside_37 M x5 x6) 4) ((z_M_beside_37 M x5 x6) / 4)) = 1))
    (b24 : ¬ 4 ≤ x6 → ¬ (z_M_isThere_37 M x5) = 0 → ¬ (z_M_isFirm_37 M x5) = 0 → ¬ (z_M_beside_37 M x5 x6) = (-9) → ¬ x5 = (M.1 43 0) → (z_M_isFirm_37 M (z_M_beside_37 M x5 x6)) = 0 → 0 = 0 → vp_in x5 16)
    (h25 : ¬ 4 ≤ x6 → ¬ (z_M_isThere_37 M x5) = 0 → ¬ (z_M_isFirm_37 M x5) = 0 → ¬ (z_M_beside_37 M x5 x6) = (-9) → ¬ x5 = (M.1 43 0) → (z_M_isFirm_37 M (z_M_beside_37 M x5 x6)) = 0 → 0 = 0 → ¬ x4 = 0 → WX mi_M_barrow 6 Q 91 [some (.ref 37), some (.int x1), some (.int x2), some (.int x3), some (.int 1), some (.int x5), some (.int (x6 + 1)), none, none] [] (wr M 54 x5.toNatClampNeg (M.1 54 x5.toNatClampNeg)))
    (h26 : ¬ 4 ≤ x6 → ¬ (z_M_isThere_37 M x5) = 0 → ¬ (z_M_isFirm_37 M x5) = 0 → ¬ (z_M_beside_37 M x5 x6) = (-9) → ¬ x5 = (M.1 43 0) → (z_M_isFirm_37 M (z_M_beside_37 M x5 x6)) = 0 → 0 = 0 → x4 = 0 → 0 = 0 → WX mi_M_barrow 6 Q 91 [some (.ref 37), some (.int x1), some (.int x2), some (.int x3), some (.int 0), some (.int x5), some (.int (x6 + 1)), none, none] [] (wr M 54 x5.toNatClampNeg (M.1 54 x5.toNatClampNeg)))
    (h27 : ¬ 4 ≤ x6 → ¬ (z_M_isThere_37 M x5) = 0 → ¬ (z_M_isFirm_37 M x5) = 0 → ¬ (z_M_beside_37 M x5 x6) = (-9) → ¬ x5 = (M.1 43 0) → (z_M_isFirm_37 M (z_M_beside_37 M x5 x6)) = 0 → 0 = 0 → x4 = 0 → ¬ 0 = 0 → WX mi_M_barrow 6 Q 91 [some (.ref 37), some (.int x1), some (.int x2), some (.int x3), some (.int 1), some (.int x5), some (.int (x6 + 1)), none, none] [] (wr M 54 x5.toNatClampNeg (M.1 54 x5.toNatClampNeg)))
    (b28 : ¬ 4 ≤ x6 → ¬ (z_M_isThere_37 M x5) = 0 → ¬ (z_M_isFirm_37 M x5) = 0 → ¬ (z_M_beside_37 M x5 x6) = (-9) → ¬ x5 = (M.1 43 0) → (z_M_isFirm_37 M (z_M_beside_37 M x5 x6)) = 0 → ¬ 0 = 0 → vp_in (z_M_beside_37 M x5 x6) 16)
    (b29 : ¬ 4 ≤ x6 → ¬ (z_M_isThere_37 M x5) = 0 → ¬ (z_M_isFirm_37 M x5) = 0 → ¬ (z_M_beside_37 M x5 x6) = (-9) → ¬ x5 = (M.1 43 0) → (z_M_isFirm_37 M (z_M_beside_37 M x5 x6)) = 0 → ¬ 0 = 0 → vp_in x5 16)
    (h30 : ¬ 4 ≤ x6 → ¬ (z_M_isThere_37 M x5) = 0 → ¬ (z_M_isFirm_37 M x5) = 0 → ¬ (z_M_beside_37 M x5 x6) = (-9) → ¬ x5 = (M.1 43 0) → (z_M_isFirm_37 M (z_M_beside_37 M x5 x6)) = 0 → ¬ 0 = 0 → ¬ x4 = 0 → WX mi_M_barrow 6 Q 91 [some (.ref 37), some (.int x1), some (.int x2), some (.int x3), some (.int 1), some (.int x5), some (.int (x6 + 1)), none, none] [] (wr M 54 x5.toNatClampNeg ((M.1 54 (z_M_beside_37 M x5 x6).toNatClampNeg) + 1)))
    (h31 : ¬ 4 ≤ x6 → ¬ (z_M_isThere_37 M x5) = 0 → ¬ (z_M_isFirm_37 M x5) = 0 → ¬ (z_M_beside_37 M x5 x6) = (-9) → ¬ x5 = (M.1 43 0) → (z_M_isFirm_37 M (z_M_beside_37 M x5 x6)) = 0 → ¬ 0 = 0 → x4 = 0 → 0 = 0 → WX mi_M_barrow 6 Q 91 [some (.ref 37), some (.int x1), some (.int x2), some (.int x3), some (.int 0), some (.int x5), some (.int (x6 + 1)), none, none] [] (wr M 54 x5.toNatClampNeg ((M.1 54 (z_M_beside_37 M x5 x6).toNatClampNeg) + 1)))
    (h32 : ¬ 4 ≤ x6 → ¬ (z_M_isThere_37 M x5) = 0 → ¬ (z_M_isFirm_37 M x5) = 0 → ¬ (z_M_beside_37 M x5 x6) = (-9) → ¬ x5 = (M.1 43 0) → (z_M_isFirm_37 M (z_M_beside_37 M x5 x6)) = 0 → ¬ 0 = 0 → x4 = 0 → ¬ 0 = 0 → WX mi_M_barrow 6 Q 91 [some (.ref 37), some (.int x1), some (.int x2), some (.int x3), some (.int 1), some (.int x5), some (.int (x6 + 1)), none, none] [] (wr M 54 x5.toNatClampNeg ((M.1 54 (z_M_beside_37 M x5 x6).toNatClampNeg) + 1)))
    (b33 : ¬ 4 ≤ x6 → ¬ (z_M_isThere_37 M x5) = 0 → ¬ (z_M_isFirm_37 M x5) = 0 → ¬ (z_M_beside_37 M x5 x6) = (-9) → ¬ x5 = (M.1 43 0) → ¬ (z_M_isFirm_37 M (z_M_beside_37 M x5 x6)) = 0 → vp_in (z_M_beside_37 M x5 x6) 16)
    (b34 : ¬ 4 ≤ x6 → ¬ (z_M_isThere_37 M x5) = 0 → ¬ (z_M_isFirm_37 M x5) = 0 → ¬ (z_M_beside_37 M x5 x6) = (-9) → ¬ x5 = (M.1 43 0) → ¬ (z_M_isFirm_37 M (z_M_beside_37 M x5 x6)) = 0 → vp_in x5 16)
    (b35 : ¬ 4 ≤ x6 → ¬ (z_M_isThere_37 M x5) = 0 → ¬ (z_M_isFirm_37 M x5) = 0 → ¬ (z_M_beside_37 M x5 x6) = (-9) → ¬ x5 = (M.1 43 0) → ¬ (z_M_isFirm_37 M (z_M_beside_37 M x5 x6)) = 0 → (M.1 54 x5.toNatClampNeg) ≤ ((M.1 54 (z_M_beside_37 M x5 x6).toNatClampNeg) + 1) → 0 = 0 → vp_in x5 16)
    (h36 : ¬ 4 ≤ x6 → ¬ (z_M_isThere_37 M x5) = 0 → ¬ (z_M_isFirm_37 M x5) = 0 → ¬ (z_M_beside_37 M x5 x6) = (-9) → ¬ x5 = (M.1 43 0) → ¬ (z_M_isFirm_37 M (z_M_beside_37 M x5 x6)) = 0 → (M.1 54 x5.toNatClampNeg) ≤ ((M.1 54 (z_M_beside_37 M x5 x6).toNatClampNeg) + 1) → 0 = 0 → ¬ x4 = 0 → WX mi_M_barrow 6 Q 91 [some (.ref 37), some (.int x1), some (.int x2), some (.int x3), some (.int 1), some (.int x5), some (.int (x6 + 1)), none, none] [] (wr M 54 x5.toNatClampNeg (M.1 54 x5.toNatClampNeg)))
    (h37 : ¬ 4 ≤ x6 → ¬ (z_M_isThere_37 M x5) = 0 → ¬ (z_M_isFirm_37 M x5) = 0 → ¬ (z_M_beside_37 M x5 x6) = (-9) → ¬ x5 = (M.1 43 0) → ¬ (z_M_isFirm_37 M (z_M_beside_37 M x5 x6)) = 0 → (M.1 54 x5.toNatClampNeg) ≤ ((M.1 54 (z_M_beside_37 M x5 x6).toNatClampNeg) + 1) → 0 = 0 → x4 = 0 → 0 = 0 → WX mi_M_barrow 6 Q 91 [some (.ref 37), some (.int x1), some (.int x2), some (.int x3), some (.int 0), some (.int x5), some (.int (x6 + 1)), none, none] [] (wr M 54 x5.toNatClampNeg (M.1 54 x5.toNatClampNeg)))
    (h38 : ¬ 4 ≤ x6 → ¬ (z_M_isThere_37 M x5) = 0 → ¬ (z_M_isFirm_37 M x5) = 0 → ¬ (z_M_beside_37 M x5 x6) = (-9) → ¬ x5 = (M.1 43 0) → ¬ (z_M_isFirm_37 M (z_M_beside_37 M x5 x6)) = 0 → (M.1 54 x5.toNatClampNeg) ≤ ((M.1 54 (z_M_beside_37 M x5 x6).toNatClampNeg) + 1) → 0 = 0 → x4 = 0 → ¬ 0 = 0 → WX mi_M_barrow 6 Q 91 [some (.ref 37), some (.int x1), some (.int x2), some (.int x3), some (.int 1), some (.int x5), some (.int (x6 + 1)), none, none] [] (wr M 54 x5.toNatClampNeg (M.1 54 x5.toNatClampNeg)))
    (b39 : ¬ 4 ≤ x6 → ¬ (z_M_isThere_37 M x5) = 0 → ¬ (z_M_isFirm_37 M x5) = 0 → ¬ (z_M_beside_37 M x5 x6) = (-9) → ¬ x5 = (M.1 43 0) → ¬ (z_M_isFirm_37 M (z_M_beside_37 M x5 x6)) = 0 → (M.1 54 x5.toNatClampNeg) ≤ ((M.1 54 (z_M_beside_37 M x5 x6).toNatClampNeg) + 1) → ¬ 0 = 0 → vp_in (z_M_beside_37 M x5 x6) 16)
    (b40 : ¬ 4 ≤ x6 → ¬ (z_M_isThere_37 M x5) = 0 → ¬ (z_M_isFirm_37 M x5) = 0 → ¬ (z_M_beside_37 M x5 x6) = (-9) → ¬ x5 = (M.1 43 0) → ¬ (z_M_isFirm_37 M (z_M_beside_37 M x5 x6)) = 0 → (M.1 54 x5.toNatClampNeg) ≤ ((M.1 54 (z_M_beside_37 M x5 x6).toNatClampNeg) + 1) → ¬ 0 = 0 → vp_in x5 16)
    (h41 : ¬ 4 ≤ x6 → ¬ (z_M_isThere_37 M x5) = 0 → ¬ (z_M_isFirm_37 M x5) = 0 → ¬ (z_M_beside_37 M x5 x6) = (-9) → ¬ x5 = (M.1 43 0) → ¬ (z_M_isFirm_37 M (z_M_beside_37 M x5 x6)) = 0 → (M.1 54 x5.toNatClampNeg) ≤ ((M.1 54 (z_M_beside_37 M x5 x6).toNatClampNeg) + 1) → ¬ 0 = 0 → ¬ x4 = 0 → WX mi_M_barrow 6 Q 91 [some (.ref 37), some (.int x1), some (.int x2), some (.int x3), some (.int 1), some (.int x5), some (.int (x6 + 1)), none, none] [] (wr M 54 x5.toNatClampNeg ((M.1 54 (z_M_beside_37 M x5 x6).toNatClampNeg) + 1)))
    (h42 : ¬ 4 ≤ x6 → ¬ (z_M_isThere_37 M x5) = 0 → ¬ (z_M_isFirm_37 M x5) = 0 → ¬ (z_M_beside_37 M x5 x6) = (-9) → ¬ x5 = (M.1 43 0) → ¬ (z_M_isFirm_37 M (z_M_beside_37 M x5 x6)) = 0 → (M.1 54 x5.toNatClampNeg) ≤ ((M.1 54 (z_M_beside_37 M x5 x6).toNatClampNeg) + 1) → ¬ 0 = 0 → x4 = 0 → 0 = 0 → WX mi_M_barrow 6 Q 91 [some (.ref 37), some (.int x1), some (.int x2), some (.int x3), some (.int 0), some (.int x5), some (.int (x6 + 1)), none, none] [] (wr M 54 x5.toNatClampNeg ((M.1 54 (z_M_beside_37 M x5 x6).toNatClampNeg) + 1)))
    (h43 : ¬ 4 ≤ x6 → ¬ (z_M_isThere_37 M x5) = 0 → ¬ (z_M_isFirm_37 M x5) = 0 → ¬ (z_M_beside_37 M x5 x6) = (-9) → ¬ x5 = (M.1 43 0) → ¬ (z_M_isFirm_37 M (z_M_beside_37 M x5 x6)) = 0 → (M.1 54 x5.toNatClampNeg) ≤ ((M.1 54 (z_M_beside_37 M x5 x6).toNatClampNeg) + 1) → ¬ 0 = 0 → x4 = 0 → ¬ 0 = 0 → WX mi_M_barrow 6 Q 91 [some (.ref 37), some (.int x1), some (.int x2), some (.int x3), some (.int 1), some (.int x5), some (.int (x6 + 1)), none, none] [] (wr M 54 x5.toNatClampNeg ((M.1 54 (z_M_beside_37 M x5 x6).toNatClampNeg) + 1)))
    (b44 : ¬ 4 ≤ x6 → ¬ (z_M_isThere_37 M x5) = 0 → ¬ (z_M_isFirm_37 M x5) = 0 → ¬ (z_M_beside_37 M x5 x6) = (-9) → ¬ x5 = (M.1 43 0) → ¬ (z_M_isFirm_37 M (z_M_beside_37 M x5 x6)) = 0 → ¬ (M.1 54 x5.toNatClampNeg) ≤ ((M.1 54 (z_M_beside_37 M x5 x6).toNatClampNeg) + 1) → 1 = 0 → vp_in x5 16)
    (h45 : ¬ 4 ≤ x6 → ¬ (z_M_isThere_37 M x5) = 0 → ¬ (z_M_isFirm_37 M x5) = 0 → ¬ (z_M_beside_37 M x5 x6) = (-9) → ¬ x5 = (M.1 43 0) → ¬ (z_M_isFirm_37 M (z_M_beside_37 M x5 x6)) = 0 → ¬ (M.1 54 x5.toNatClampNeg) ≤ ((M.1 54 (z_M_beside_37 M x5 x6).toNatClampNeg) + 1) → 1 = 0 → ¬ x4 = 0 → WX mi_M_barrow 6 Q 91 [some (.ref 37), some (.int x1), some (.int x2), some (.int x3), some (.int 1), some (.int x5), some (.int (x6 + 1)), none, none] [] (wr M 54 x5.toNatClampNeg (M.1 54 x5.toNatClampNeg)))
    (h46 : ¬ 4 ≤ x6 → ¬ (z_M_isThere_37 M x5) = 0 → ¬ (z_M_isFirm_37 M x5) = 0 → ¬ (z_M_beside_37 M x5 x6) = (-9) → ¬ x5 = (M.1 43 0) → ¬ (z_M_isFirm_37 M (z_M_beside_37 M x5 x6)) = 0 → ¬ (M.1 54 x5.toNatClampNeg) ≤ ((M.1 54 (z_M_beside_37 M x5 x6).toNatClampNeg) + 1) → 1 = 0 → x4 = 0 → 1 = 0 → WX mi_M_barrow 6 Q 91 [some (.ref 37), some (.int x1), some (.int x2), some (.int x3), some (.int 0), some (.int x5), some (.int (x6 + 1)), none, none] [] (wr M 54 x5.toNatClampNeg (M.1 54 x5.toNatClampNeg)))
    (h47 : ¬ 4 ≤ x6 → ¬ (z_M_isThere_37 M x5) = 0 → ¬ (z_M_isFirm_37 M x5) = 0 → ¬ (z_M_beside_37 M x5 x6) = (-9) → ¬ x5 = (M.1 43 0) → ¬ (z_M_isFirm_37 M (z_M_beside_37 M x5 x6)) = 0 → ¬ (M.1 54 x5.toNatClampNeg) ≤ ((M.1 54 (z_M_beside_37 M x5 x6).toNatClampNeg) + 1) → 1 = 0 → x4 = 0 → ¬ 1 = 0 → WX mi_M_barrow 6 Q 91 [some (.ref 37), some (.int x1), some (.int x2), some (.int x3), some (.int 1), some (.int x5), some (.int (x6 + 1)), none, none] [] (wr M 54 x5.toNatClampNeg (M.1 54 x5.toNatClampNeg)))
    (b48 : ¬ 4 ≤ x6 → ¬ (z_M_isThere_37 M x5) = 0 → ¬ (z_M_isFirm_37 M x5) = 0 → ¬ (z_M_beside_37 M x5 x6) = (-9) → ¬ x5 = (M.1 43 0) → ¬ (z_M_isFirm_37 M (z_M_beside_37 M x5 x6)) = 0 → ¬ (M.1 54 x5.toNatClampNeg) ≤ ((M.1 54 (z_M_beside_37 M x5 x6).toNatClampNeg) + 1) → ¬ 1 = 0 → vp_in (z_M_beside_37 M x5 x6) 16)
    (b49 : ¬ 4 ≤ x6 → ¬ (z_M_isThere_37 M x5) = 0 → ¬ (z_M_isFirm_37 M x5) = 0 → ¬ (z_M_beside_37 M x5 x6) = (-9) → ¬ x5 = (M.1 43 0) → ¬ (z_M_isFirm_37 M (z_M_beside_37 M x5 x6)) = 0 → ¬ (M.1 54 x5.toNatClampNeg) ≤ ((M.1 54 (z_M_beside_37 M x5 x6).toNatClampNeg) + 1) → ¬ 1 = 0 → vp_in x5 16)
    (h50 : ¬ 4 ≤ x6 → ¬ (z_M_isThere_37 M x5) = 0 → ¬ (z_M_isFirm_37 M x5) = 0 → ¬ (z_M_beside_37 M x5 x6) = (-9) → ¬ x5 = (M.1 43 0) → ¬ (z_M_isFirm_37 M (z_M_beside_37 M x5 x6)) = 0 → ¬ (M.1 54 x5.toNatClampNeg) ≤ ((M.1 54 (z_M_beside_37 M x5 x6).toNatClampNeg) + 1) → ¬ 1 = 0 → ¬ x4 = 0 → WX mi_M_barrow 6 Q 91 [some (.ref 37), some (.int x1), some (.int x2), some (.int x3), some (.int 1), some (.int x5), some (.int (x6 + 1)), none, none] [] (wr M 54 x5.toNatClampNeg ((M.1 54 (z_M_beside_37 M x5 x6).toNatClampNeg) + 1)))
    (h51 : ¬ 4 ≤ x6 → ¬ (z_M_isThere_37 M x5) = 0 → ¬ (z_M_isFirm_37 M x5) = 0 → ¬ (z_M_beside_37 M x5 x6) = (-9) → ¬ x5 = (M.1 43 0) → ¬ (z_M_isFirm_37 M (z_M_beside_37 M x5 x6)) = 0 → ¬ (M.1 54 x5.toNatClampNeg) ≤ ((M.1 54 (z_M_beside_37 M x5 x6).toNatClampNeg) + 1) → ¬ 1 = 0 → x4 = 0 → 1 = 0 → WX mi_M_barrow 6 Q 91 [some (.ref 37), some (.int x1), some (.int x2), some (.int x3), some (.int 0), some (.int x5), some (.int (x6 + 1)), none, none] [] (wr M 54 x5.toNatClampNeg ((M.1 54 (z_M_beside_37 M x5 x6).toNatClampNeg) + 1)))
    (h52 : ¬ 4 ≤ x6 → ¬ (z_M_isThere_37 M x5) = 0 → ¬ (z_M_isFirm_37 M x5) = 0 → ¬ (z_M_beside_37 M x5 x6) = (-9) → ¬ x5 = (M.1 43 0) → ¬ (z_M_isFirm_37 M (z_M_beside_37 M x5 x6)) = 0 → ¬ (M.1 54 x5.toNatClampNeg) ≤ ((M.1 54 (z_M_beside_37 M x5 x6).toNatClampNeg) + 1) → ¬ 1 = 0 → x4 = 0 → ¬ 1 = 0 → WX mi_M_barrow 6 Q 91 [some (.ref 37), some (.int x1), some (.int x2), some (.int x3), some (.int 1), some (.int x5), some (.int (x6 + 1)), none, none] [] (wr M 54 x5.toNatClampNeg ((M.1 54 (z_M_beside_37 M x5 x6).toNatClampNeg) + 1)))
    (h53 : ¬ 4 ≤ x6 → ¬ (z_M_isThere_37 M x5) = 0 → (z_M_isFirm_37 M x5) = 0 → ¬ x5 = x3 → WX mi_M_barrow 6 Q 81 [some (.ref 37), some (.int x1), some (.int x2), some (.int x3), some (.int x4), some (.int (x5 + 1)), none, none, none] [] M)
    (b54 : ¬ 4 ≤ x6 → ¬ (z_M_isThere_37 M x5) = 0 → (z_M_isFirm_37 M x5) = 0 → x5 = x3 → (z_M_beside_37 M x5 x6) = (-9) → 0 = 0 → vp_in x5 16)
    (h55 : ¬ 4 ≤ x6 → ¬ (z_M_isThere_37 M x5) = 0 → (z_M_isFirm_37 M x5) = 0 → x5 = x3 → (z_M_beside_37 M x5 x6) = (-9) → 0 = 0 → ¬ x4 = 0 → WX mi_M_barrow 6 Q 91 [some (.ref 37), some (.int x1), some (.int x2), some (.int x3), some (.int 1), some (.int x5), some (.int (x6 + 1)), none, none] [] (wr M 54 x5.toNatClampNeg (M.1 54 x5.toNatClampNeg)))
    (h56 : ¬ 4 ≤ x6 → ¬ (z_M_isThere_37 M x5) = 0 → (z_M_isFirm_37 M x5) = 0 → x5 = x3 → (z_M_beside_37 M x5 x6) = (-9) → 0 = 0 → x4 = 0 → 0 = 0 → WX mi_M_barrow 6 Q 91 [some (.ref 37), some (.int x1), some (.int x2), some (.int x3), some (.int 0), some (.int x5), some (.int (x6 + 1)), none, none] [] (wr M 54 x5.toNatClampNeg (M.1 54 x5.toNatClampNeg)))
    (h57 : ¬ 4 ≤ x6 → ¬ (z_M_isThere_37 M x5) = 0 → (z_M_isFirm_37 M x5) = 0 → x5 = x3 → (z_M_beside_37 M x5 x6) = (-9) → 0 = 0 → x4 = 0 → ¬ 0 = 0 → WX mi_M_barrow 6 Q 91 [some (.ref 37), some (.int x1), some (.int x2), some (.int x3), some (.int 1), some (.int x5), some (.int (x6 + 1)), none, none] [] (wr M 54 x5.toNatClampNeg (M.1 54 x5.toNatClampNeg)))
    (b58 : ¬ 4 ≤ x6 → ¬ (z_M_isThere_37 M x5) = 0 → (z_M_isFirm_37 M x5) = 0 → x5 = x3 → (z_M_beside_37 M x5 x6) = (-9) → ¬ 0 = 0 → vp_in (z_M_beside_37 M x5 x6) 16)
    (b59 : ¬ 4 ≤ x6 → ¬ (z_M_isThere_37 M x5) = 0 → (z_M_isFirm_37 M x5) = 0 → x5 = x3 → (z_M_beside_37 M x5 x6) = (-9) → ¬ 0 = 0 → vp_in x5 16)
    (h60 : ¬ 4 ≤ x6 → ¬ (z_M_isThere_37 M x5) = 0 → (z_M_isFirm_37 M x5) = 0 → x5 = x3 → (z_M_beside_37 M x5 x6) = (-9) → ¬ 0 = 0 → ¬ x4 = 0 → WX mi_M_barrow 6 Q 91 [some (.ref 37), some (.int x1), some (.int x2), some (.int x3), some (.int 1), some (.int x5), some (.int (x6 + 1)), none, none] [] (wr M 54 x5.toNatClampNeg ((M.1 54 (z_M_beside_37 M x5 x6).toNatClampNeg) + 1)))
    (h61 : ¬ 4 ≤ x6 → ¬ (z_M_isThere_37 M x5) = 0 → (z_M_isFirm_37 M x5) = 0 → x5 = x3 → (z_M_beside_37 M x5 x6) = (-9) → ¬ 0 = 0 → x4 = 0 → 0 = 0 → WX mi_M_barrow 6 Q 91 [some (.ref 37), some (.int x1), some (.int x2), some (.int x3), some (.int 0), some (.int x5), some (.int (x6 + 1)), none, none] [] (wr M 54 x5.toNatClampNeg ((M.1 54 (z_M_beside_37 M x5 x6).toNatClampNeg) + 1)))
    (h62 : ¬ 4 ≤ x6 → ¬ (z_M_isThere_37 M x5) = 0 → (z_M_isFirm_37 M x5) = 0 → x5 = x3 → (z_M_beside_37 M x5 x6) = (-9) → ¬ 0 = 0 → x4 = 0 → ¬ 0 = 0 → WX mi_M_barrow 6 Q 91 [some (.ref 37), some (.int x1), some (.int x2), some (.int x3), some (.int 1), some (.int x5), some (.int (x6 + 1)), none, none] [] (wr M 54 x5.toNatClampNeg ((M.1 54 (z_M_beside_37 M x5 x6).toNatClampNeg) + 1)))
    (b63 : ¬ 4 ≤ x6 → ¬ (z_M_isThere_37 M x5) = 0 → (z_M_isFirm_37 M x5) = 0 → x5 = x3 → ¬ (z_M_beside_37 M x5 x6) = (-9) → x5 = (M.1 43 0) → 0 = 0 → vp_in x5 16)
    (h64 : ¬ 4 ≤ x6 → ¬ (z_M_isThere_37 M x5) = 0 → (z_M_isFirm_37 M x5) = 0 → x5 = x3 → ¬ (z_M_beside_37 M x5 x6) = (-9) → x5 = (M.1 43 0) → 0 = 0 → ¬ x4 = 0 → WX mi_M_barrow 6 Q 91 [some (.ref 37), some (.int x1), some (.int x2), some (.int x3), some (.int 1), some (.int x5), some (.int (x6 + 1)), none, none] [] (wr M 54 x5.toNatClampNeg (M.1 54 x5.toNatClampNeg)))
    (h65 : ¬ 4 ≤ x6 → ¬ (z_M_isThere_37 M x5) = 0 → (z_M_isFirm_37 M x5) = 0 → x5 = x3 → ¬ (z_M_beside_37 M x5 x6) = (-9) → x5 = (M.1 43 0) → 0 = 0 → x4 = 0 → 0 = 0 → WX mi_M_barrow 6 Q 91 [some (.ref 37), some (.int x1), some (.int x2), some (.int x3), some (.int 0), some (.int x5), some (.int (x6 + 1)), none, none] [] (wr M 54 x5.toNatClampNeg (M.1 54 x5.toNatClampNeg)))
    (h66 : ¬ 4 ≤ x6 → ¬ (z_M_isThere_37 M x5) = 0 → (z_M_isFirm_37 M x5) = 0 → x5 = x3 → ¬ (z_M_beside_37 M x5 x6) = (-9) → x5 = (M.1 43 0) → 0 = 0 → x4 = 0 → ¬ 0 = 0 → WX mi_M_barrow 6 Q 91 [some (.ref 37), some (.int x1), some (.int x2), some (.int x3), some (.int 1), some (.int x5), some (.int (x6 + 1)), none, none] [] (wr M 54 x5.toNatClampNeg (M.1 54 x5.toNatClampNeg)))
    (b67 : ¬ 4 ≤ x6 → ¬ (z_M_isThere_37 M x5) = 0 → (z_M_isFirm_37 M x5) = 0 → x5 = x3 → ¬ (z_M_beside_37 M x5 x6) = (-9) → x5 = (M.1 43 0) → ¬ 0 = 0 → vp_in (z_M_beside_37 M x5 x6) 16)
    (b68 : ¬ 4 ≤ x6 → ¬ (z_M_isThere_37 M x5) = 0 → (z_M_isFirm_37 M x5) = 0 → x5 = x3 → ¬ (z_M_beside_37 M x5 x6) = (-9) → x5 = (M.1 43 0) → ¬ 0 = 0 → vp_in x5 16)
    (h69 : ¬ 4 ≤ x6 → ¬ (z_M_isThere_37 M x5) = 0 → (z_M_isFirm_37 M x5) = 0 → x5 = x3 → ¬ (z_M_beside_37 M x5 x6) = (-9) → x5 = (M.1 43 0) → ¬ 0 = 0 → ¬ x4 = 0 → WX mi_M_barrow 6 Q 91 [some (.ref 37), some (.int x1), some (.int x2), some (.int x3), some (.int 1), some (.int x5), some (.int (x6 + 1)), none, none] [] (wr M 54 x5.toNatClampNeg ((M.1 54 (z_M_beside_37 M x5 x6).toNatClampNeg) + 1)))
    (h70 : ¬ 4 ≤ x6 → ¬ (z_M_isThere_37 M x5) = 0 → (z_M_isFirm_37 M x5) = 0 → x5 = x3 → ¬ (z_M_beside_37 M x5 x6) = (-9) → x5 = (M.1 43 0) → ¬ 0 = 0 → x4 = 0 → 0 = 0 → WX mi_M_barrow 6 Q 91 [some (.ref 37), some (.int x1), some (.int x2), some (.int x3), some (.int 0), some (.int x5), some (.int (x6 + 1)), none, none] [] (wr M 54 x5.toNatClampNeg ((M.1 54 (z_M_beside_37 M x5 x6).toNatClampNeg) + 1)))
    (h71 : ¬ 4 ≤ x6 → ¬ (z_M_isThere_37 M x5) = 0 → (z_M_isFirm_37 M x5) = 0 → x5 = x3 → ¬ (z_M_beside_37 M x5 x6) = (-9) → x5 = (M.1 43 0) → ¬ 0 = 0 → x4 = 0 → ¬ 0 = 0 → WX mi_M_barrow 6 Q 91 [some (.ref 37), some (.int x1), some (.int x2), some (.int x3), some (.int 1), some (.int x5), some (.int (x6 + 1)), none, none] [] (wr M 54 x5.toNatClampNeg ((M.1 54 (z_M_beside_37 M x5 x6).toNatClampNeg) + 1)))
    (b72 : ¬ 4 ≤ x6 → ¬ (z_M_isThere_37 M x5) = 0 → (z_M_isFirm_37 M x5) = 0 → x5 = x3 → ¬ (z_M_beside_37 M x5 x6) = (-9) → ¬ x5 = (M.1 43 0) → ((z_M_isCell_37 M (rem (z_M_beside_37 M x5 x6) 4) ((z_M_beside_37 M x5 x6) / 4)) = 0 ∨ (z_M_isCell_37 M (rem (z_M_beside_37 M x5 x6) 4) ((z_M_beside_37 M x5 x6) / 4)) = 1))
    (b73 : ¬ 4 ≤ x6 → ¬ (z_M_isThere_37 M x5) = 0 → (z_M_isFirm_37 M x5) = 0 → x5 = x3 → ¬ (z_M_beside_37 M x5 x6) = (-9) → ¬ x5 = (M.1 43 0) → (z_M_isFirm_37 M (z_M_beside_37 M x5 x6)) = 0 → 0 = 0 → vp_in x5 16)
    (h74 : ¬ 4 ≤ x6 → ¬ (z_M_isThere_37 M x5) = 0 → (z_M_isFirm_37 M x5) = 0 → x5 = x3 → ¬ (z_M_beside_37 M x5 x6) = (-9) → ¬ x5 = (M.1 43 0) → (z_M_isFirm_37 M (z_M_beside_37 M x5 x6)) = 0 → 0 = 0 → ¬ x4 = 0 → WX mi_M_barrow 6 Q 91 [some (.ref 37), some (.int x1), some (.int x2), some (.int x3), some (.int 1), some (.int x5), some (.int (x6 + 1)), none, none] [] (wr M 54 x5.toNatClampNeg (M.1 54 x5.toNatClampNeg)))
    (h75 : ¬ 4 ≤ x6 → ¬ (z_M_isThere_37 M x5) = 0 → (z_M_isFirm_37 M x5) = 0 → x5 = x3 → ¬ (z_M_beside_37 M x5 x6) = (-9) → ¬ x5 = (M.1 43 0) → (z_M_isFirm_37 M (z_M_beside_37 M x5 x6)) = 0 → 0 = 0 → x4 = 0 → 0 = 0 → WX mi_M_barrow 6 Q 91 [some (.ref 37), some (.int x1), some (.int x2), some (.int x3), some (.int 0), some (.int x5), some (.int (x6 + 1)), none, none] [] (wr M 54 x5.toNatClampNeg (M.1 54 x5.toNatClampNeg)))
    (h76 : ¬ 4 ≤ x6 → ¬ (z_M_isThere_37 M x5) = 0 → (z_M_isFirm_37 M x5) = 0 → x5 = x3 → ¬ (z_M_beside_37 M x5 x6) = (-9) → ¬ x5 = (M.1 43 0) → (z_M_isFirm_37 M (z_M_beside_37 M x5 x6)) = 0 → 0 = 0 → x4 = 0 → ¬ 0 = 0 → WX mi_M_barrow 6 Q 91 [some (.ref 37), some (.int x1), some (.int x2), some (.int x3), some (.int 1), some (.int x5), some (.int (x6 + 1)), none, none] [] (wr M 54 x5.toNatClampNeg (M.1 54 x5.toNatClampNeg)))
    (b77 : ¬ 4 ≤ x6 → ¬ (z_M_isThere_37 M x5) = 0 → (z_M_isFirm_37 M x5) = 0 → x5 = x3 → ¬ (z_M_beside_37 M x5 x6) = (-9) → ¬ x5 = (M.1 43 0) → (z_M_isFirm_37 M (z_M_beside_37 M x5 x6)) = 0 → ¬ 0 = 0 → vp_in (z_M_beside_37 M x5 x6) 16)
    (b78 : ¬ 4 ≤ x6 → ¬ (z_M_isThere_37 M x5) = 0 → (z_M_isFirm_37 M x5) = 0 → x5 = x3 → ¬ (z_M_beside_37 M x5 x6) = (-9) → ¬ x5 = (M.1 43 0) → (z_M_isFirm_37 M (z_M_beside_37 M x5 x6)) = 0 → ¬ 0 = 0 → vp_in x5 16)
    (h79 : ¬ 4 ≤ x6 → ¬ (z_M_isThere_37 M x5) = 0 → (z_M_isFirm_37 M x5) = 0 → x5 = x3 → ¬ (z_M_beside_37 M x5 x6) = (-9) → ¬ x5 = (M.1 43 0) → (z_M_isFirm_37 M (z_M_beside_37 M x5 x6)) = 0 → ¬ 0 = 0 → ¬ x4 = 0 → WX mi_M_barrow 6 Q 91 [some (.ref 37), some (.int x1), some (.int x2), some (.int x3), some (.int 1), some (.int x5), some (.int (x6 + 1)), none, none] [] (wr M 54 x5.toNatClampNeg ((M.1 54 (z_M_beside_37 M x5 x6).toNatClampNeg) + 1)))
    (h80 : ¬ 4 ≤ x6 → ¬ (z_M_isThere_37 M x5) = 0 → (z_M_isFirm_37 M x5) = 0 → x5 = x3 → ¬ (z_M_beside_37 M x5 x6) = (-9) → ¬ x5 = (M.1 43 0) → (z_M_isFirm_37 M (z_M_beside_37 M x5 x6)) = 0 → ¬ 0 = 0 → x4 = 0 → 0 = 0 → WX mi_M_barrow 6 Q 91 [some (.ref 37), some (.int x1), some (.int x2), some (.int x3), some (.int 0), some (.int x5), some (.int (x6 + 1)), none, none] [] (wr M 54 x5.toNatClampNeg ((M.1 54 (z_M_beside_37 M x5 x6).toNatClampNeg) + 1)))
    (h81 : ¬ 4 ≤ x6 → ¬ (z_M_isThere_37 M x5) = 0 → (z_M_isFirm_37 M x5) = 0 → x5 = x3 → ¬ (z_M_beside_37 M x5 x6) = (-9) → ¬ x5 = (M.1 43 0) → (z_M_isFirm_37 M (z_M_beside_37 M x5 x6)) = 0 → ¬ 0 = 0 → x4 = 0 → ¬ 0 = 0 → WX mi_M_barrow 6 Q 91 [some (.ref 37), some (.int x1), some (.int x2), some (.int x3), some (.int 1), some (.int x5), some (.int (x6 + 1)), none, none] [] (wr M 54 x5.toNatClampNeg ((M.1 54 (z_M_beside_37 M x5 x6).toNatClampNeg) + 1)))
    (b82 : ¬ 4 ≤ x6 → ¬ (z_M_isThere_37 M x5) = 0 → (z_M_isFirm_37 M x5) = 0 → x5 = x3 → ¬ (z_M_beside_37 M x5 x6) = (-9) → ¬ x5 = (M.1 43 0) → ¬ (z_M_isFirm_37 M (z_M_beside_37 M x5 x6)) = 0 → vp_in (z_M_beside_37 M x5 x6) 16)
    (b83 : ¬ 4 ≤ x6 → ¬ (z_M_isThere_37 M x5) = 0 → (z_M_isFirm_37 M x5) = 0 → x5 = x3 → ¬ (z_M_beside_37 M x5 x6) = (-9) → ¬ x5 = (M.1 43 0) → ¬ (z_M_isFirm_37 M (z_M_beside_37 M x5 x6)) = 0 → vp_in x5 16)
    (b84 : ¬ 4 ≤ x6 → ¬ (z_M_isThere_37 M x5) = 0 → (z_M_isFirm_37 M x5) = 0 → x5 = x3 → ¬ (z_M_beside_37 M x5 x6) = (-9) → ¬ x5 = (M.1 43 0) → ¬ (z_M_isFirm_37 M (z_M_beside_37 M x5 x6)) = 0 → (M.1 54 x5.toNatClampNeg) ≤ ((M.1 54 (z_M_beside_37 M x5 x6).toNatClampNeg) + 1) → 0 = 0 → vp_in x5 16)
    (h85 : ¬ 4 ≤ x6 → ¬ (z_M_isThere_37 M x5) = 0 → (z_M_isFirm_37 M x5) = 0 → x5 = x3 → ¬ (z_M_beside_37 M x5 x6) = (-9) → ¬ x5 = (M.1 43 0) → ¬ (z_M_isFirm_37 M (z_M_beside_37 M x5 x6)) = 0 → (M.1 54 x5.toNatClampNeg) ≤ ((M.1 54 (z_M_beside_37 M x5 x6).toNatClampNeg) + 1) → 0 = 0 → ¬ x4 = 0 → WX mi_M_barrow 6 Q 91 [some (.ref 37), some (.int x1), some (.int x2), some (.int x3), some (.int 1), some (.int x5), some (.int (x6 + 1)), none, none] [] (wr M 54 x5.toNatClampNeg (M.1 54 x5.toNatClampNeg)))
    (h86 : ¬ 4 ≤ x6 → ¬ (z_M_isThere_37 M x5) = 0 → (z_M_isFirm_37 M x5) = 0 → x5 = x3 → ¬ (z_M_beside_37 M x5 x6) = (-9) → ¬ x5 = (M.1 43 0) → ¬ (z_M_isFirm_37 M (z_M_beside_37 M x5 x6)) = 0 → (M.1 54 x5.toNatClampNeg) ≤ ((M.1 54 (z_M_beside_37 M x5 x6).toNatClampNeg) + 1) → 0 = 0 → x4 = 0 → 0 = 0 → WX mi_M_barrow 6 Q 91 [some (.ref 37), some (.int x1), some (.int x2), some (.int x3), some (.int 0), some (.int x5), some (.int (x6 + 1)), none, none] [] (wr M 54 x5.toNatClampNeg (M.1 54 x5.toNatClampNeg)))
    (h87 : ¬ 4 ≤ x6 → ¬ (z_M_isThere_37 M x5) = 0 → (z_M_isFirm_37 M x5) = 0 → x5 = x3 → ¬ (z_M_beside_37 M x5 x6) = (-9) → ¬ x5 = (M.1 43 0) → ¬ (z_M_isFirm_37 M (z_M_beside_37 M x5 x6)) = 0 → (M.1 54 x5.toNatClampNeg) ≤ ((M.1 54 (z_M_beside_37 M x5 x6).toNatClampNeg) + 1) → 0 = 0 → x4 = 0 → ¬ 0 = 0 → WX mi_M_barrow 6 Q 91 [some (.ref 37), some (.int x1), some (.int x2), some (.int x3), some (.int 1), some (.int x5), some (.int (x6 + 1)), none, none] [] (wr M 54 x5.toNatClampNeg (M.1 54 x5.toNatClampNeg)))
    (b88 : ¬ 4 ≤ x6 → ¬ (z_M_isThere_37 M x5) = 0 → (z_M_isFirm_37 M x5) = 0 → x5 = x3 → ¬ (z_M_beside_37 M x5 x6) = (-9) → ¬ x5 = (M.1 43 0) → ¬ (z_M_isFirm_37 M (z_M_beside_37 M x5 x6)) = 0 → (M.1 54 x5.toNatClampNeg) ≤ ((M.1 54 (z_M_beside_37 M x5 x6).toNatClampNeg) + 1) → ¬ 0 = 0 → vp_in (z_M_beside_37 M x5 x6) 16)
    (b89 : ¬ 4 ≤ x6 → ¬ (z_M_isThere_37 M x5) = 0 → (z_M_isFirm_37 M x5) = 0 → x5 = x3 → ¬ (z_M_beside_37 M x5 x6) = (-9) → ¬ x5 = (M.1 43 0) → ¬ (z_M_isFirm_37 M (z_M_beside_37 M x5 x6)) = 0 → (M.1 54 x5.toNatClampNeg) ≤ ((M.1 54 (z_M_beside_37 M x5 x6).toNatClampNeg) + 1) → ¬ 0 = 0 → vp_in x5 16)
    (h90 : ¬ 4 ≤ x6 → ¬ (z_M_isThere_37 M x5) = 0 → (z_M_isFirm_37 M x5) = 0 → x5 = x3 → ¬ (z_M_beside_37 M x5 x6) = (-9) → ¬ x5 = (M.1 43 0) → ¬ (z_M_isFirm_37 M (z_M_beside_37 M x5 x6)) = 0 → (M.1 54 x5.toNatClampNeg) ≤ ((M.1 54 (z_M_beside_37 M x5 x6).toNatClampNeg) + 1) → ¬ 0 = 0 → ¬ x4 = 0 → WX mi_M_barrow 6 Q 91 [some (.ref 37), some (.int x1), some (.int x2), some (.int x3), some (.int 1), some (.int x5), some (.int (x6 + 1)), none, none] [] (wr M 54 x5.toNatClampNeg ((M.1 54 (z_M_beside_37 M x5 x6).toNatClampNeg) + 1)))
    (h91 : ¬ 4 ≤ x6 → ¬ (z_M_isThere_37 M x5) = 0 → (z_M_isFirm_37 M x5) = 0 → x5 = x3 → ¬ (z_M_beside_37 M x5 x6) = (-9) → ¬ x5 = (M.1 43 0) → ¬ (z_M_isFirm_37 M (z_M_beside_37 M x5 x6)) = 0 → (M.1 54 x5.toNatClampNeg) ≤ ((M.1 54 (z_M_beside_37 M x5 x6).toNatClampNeg) + 1) → ¬ 0 = 0 → x4 = 0 → 0 = 0 → WX mi_M_barrow 6 Q 91 [some (.ref 37), some (.int x1), some (.int x2), some (.int x3), some (.int 0), some (.int x5), some (.int (x6 + 1)), none, none] [] (wr M 54 x5.toNatClampNeg ((M.1 54 (z_M_beside_37 M x5 x6).toNatClampNeg) + 1)))
    (h92 : ¬ 4 ≤ x6 → ¬ (z_M_isThere_37 M x5) = 0 → (z_M_isFirm_37 M x5) = 0 → x5 = x3 → ¬ (z_M_beside_37 M x5 x6) = (-9) → ¬ x5 = (M.1 43 0) → ¬ (z_M_isFirm_37 M (z_M_beside_37 M x5 x6)) = 0 → (M.1 54 x5.toNatClampNeg) ≤ ((M.1 54 (z_M_beside_37 M x5 x6).toNatClampNeg) + 1) → ¬ 0 = 0 → x4 = 0 → ¬ 0 = 0 → WX mi_M_barrow 6 Q 91 [some (.ref 37), some (.int x1), some (.int x2), some (.int x3), some (.int 1), some (.int x5), some (.int (x6 + 1)), none, none] [] (wr M 54 x5.toNatClampNeg ((M.1 54 (z_M_beside_37 M x5 x6).toNatClampNeg) + 1)))
    (b93 : ¬ 4 ≤ x6 → ¬ (z_M_isThere_37 M x5) = 0 → (z_M_isFirm_37 M x5) = 0 → x5 = x3 → ¬ (z_M_beside_37 M x5 x6) = (-9) → ¬ x5 = (M.1 43 0) → ¬ (z_M_isFirm_37 M (z_M_beside_37 M x5 x6)) = 0 → ¬ (M.1 54 x5.toNatClampNeg) ≤ ((M.1 54 (z_M_beside_37 M x5 x6).toNatClampNeg) + 1) → 1 = 0 → vp_in x5 16)
    (h94 : ¬ 4 ≤ x6 → ¬ (z_M_isThere_37 M x5) = 0 → (z_M_isFirm_37 M x5) = 0 → x5 = x3 → ¬ (z_M_beside_37 M x5 x6) = (-9) → ¬ x5 = (M.1 43 0) → ¬ (z_M_isFirm_37 M (z_M_beside_37 M x5 x6)) = 0 → ¬ (M.1 54 x5.toNatClampNeg) ≤ ((M.1 54 (z_M_beside_37 M x5 x6).toNatClampNeg) + 1) → 1 = 0 → ¬ x4 = 0 → WX mi_M_barrow 6 Q 91 [some (.ref 37), some (.int x1), some (.int x2), some (.int x3), some (.int 1), some (.int x5), some (.int (x6 + 1)), none, none] [] (wr M 54 x5.toNatClampNeg (M.1 54 x5.toNatClampNeg)))
    (h95 : ¬ 4 ≤ x6 → ¬ (z_M_isThere_37 M x5) = 0 → (z_M_isFirm_37 M x5) = 0 → x5 = x3 → ¬ (z_M_beside_37 M x5 x6) = (-9) → ¬ x5 = (M.1 43 0) → ¬ (z_M_isFirm_37 M (z_M_beside_37 M x5 x6)) = 0 → ¬ (M.1 54 x5.toNatClampNeg) ≤ ((M.1 54 (z_M_beside_37 M x5 x6).toNatClampNeg) + 1) → 1 = 0 → x4 = 0 → 1 = 0 → WX mi_M_barrow 6 Q 91 [some (.ref 37), some (.int x1), some (.int x2), some (.int x3), some (.int 0), some (.int x5), some (.int (x6 + 1)), none, none] [] (wr M 54 x5.toNatClampNeg (M.1 54 x5.toNatClampNeg)))
    (h96 : ¬ 4 ≤ x6 → ¬ (z_M_isThere_37 M x5) = 0 → (z_M_isFirm_37 M x5) = 0 → x5 = x3 → ¬ (z_M_beside_37 M x5 x6) = (-9) → ¬ x5 = (M.1 43 0) → ¬ (z_M_isFirm_37 M (z_M_beside_37 M x5 x6)) = 0 → ¬ (M.1 54 x5.toNatClampNeg) ≤ ((M.1 54 (z_M_beside_37 M x5 x6).toNatClampNeg) + 1) → 1 = 0 → x4 = 0 → ¬ 1 = 0 → WX mi_M_barrow 6 Q 91 [some (.ref 37), some (.int x1), some (.int x2), some (.int x3), some (.int 1), some (.int x5), some (.int (x6 + 1)), none, none] [] (wr M 54 x5.toNatClampNeg (M.1 54 x5.toNatClampNeg)))
    (b97 : ¬ 4 ≤ x6 → ¬ (z_M_isThere_37 M x5) = 0 → (z_M_isFirm_37 M x5) = 0 → x5 = x3 → ¬ (z_M_beside_37 M x5 x6) = (-9) → ¬ x5 = (M.1 43 0) → ¬ (z_M_isFirm_37 M (z_M_beside_37 M x5 x6)) = 0 → ¬ (M.1 54 x5.toNatClampNeg) ≤ ((M.1 54 (z_M_beside_37 M x5 x6).toNatClampNeg) + 1) → ¬ 1 = 0 → vp_in (z_M_beside_37 M x5 x6) 16)
    (b98 : ¬ 4 ≤ x6 → ¬ (z_M_isThere_37 M x5) = 0 → (z_M_isFirm_37 M x5) = 0 → x5 = x3 → ¬ (z_M_beside_37 M x5 x6) = (-9) → ¬ x5 = (M.1 43 0) → ¬ (z_M_isFirm_37 M (z_M_beside_37 M x5 x6)) = 0 → ¬ (M.1 54 x5.toNatClampNeg) ≤ ((M.1 54 (z_M_beside_37 M x5 x6).toNatClampNeg) + 1) → ¬ 1 = 0 → vp_in x5 16)
    (h99 : ¬ 4 ≤ x6 → ¬ (z_M_isThere_37 M x5) = 0 → (z_M_isFirm_37 M x5) = 0 → x5 = x3 → ¬ (z_M_beside_37 M x5 x6) = (-9) → ¬ x5 = (M.1 43 0) → ¬ (z_M_isFirm_37 M (z_M_beside_37 M x5 x6)) = 0 → ¬ (M.1 54 x5.toNatClampNeg) ≤ ((M.1 54 (z_M_beside_37 M x5 x6).toNatClampNeg) + 1) → ¬ 1 = 0 → ¬ x4 = 0 → WX mi_M_barrow 6 Q 91 [some (.ref 37), some (.int x1), some (.int x2), some (.int x3), some (.int 1), some (.int x5), some (.int (x6 + 1)), none, none] [] (wr M 54 x5.toNatClampNeg ((M.1 54 (z_M_beside_37 M x5 x6).toNatClampNeg) + 1)))
    (h100 : ¬ 4 ≤ x6 → ¬ (z_M_isThere_37 M x5) = 0 → (z_M_isFirm_37 M x5) = 0 → x5 = x3 → ¬ (z_M_beside_37 M x5 x6) = (-9) → ¬ x5 = (M.1 43 0) → ¬ (z_M_isFirm_37 M (z_M_beside_37 M x5 x6)) = 0 → ¬ (M.1 54 x5.toNatClampNeg) ≤ ((M.1 54 (z_M_beside_37 M x5 x6).toNatClampNeg) + 1) → ¬ 1 = 0 → x4 = 0 → 1 = 0 → WX mi_M_barrow 6 Q 91 [some (.ref 37), some (.int x1), some (.int x2), some (.int x3), some (.int 0), some (.int x5), some (.int (x6 + 1)), none, none] [] (wr M 54 x5.toNatClampNeg ((M.1 54 (z_M_beside_37 M x5 x6).toNatClampNeg) + 1)))
    (h101 : ¬ 4 ≤ x6 → ¬ (z_M_isThere_37 M x5) = 0 → (z_M_isFirm_37 M x5) = 0 → x5 = x3 → ¬ (z_M_beside_37 M x5 x6) = (-9) → ¬ x5 = (M.1 43 0) → ¬ (z_M_isFirm_37 M (z_M_beside_37 M x5 x6)) = 0 → ¬ (M.1 54 x5.toNatClampNeg) ≤ ((M.1 54 (z_M_beside_37 M x5 x6).toNatClampNeg) + 1) → ¬ 1 = 0 → x4 = 0 → ¬ 1 = 0 → WX mi_M_barrow 6 Q 91 [some (.ref 37), some (.int x1), some (.int x2), some (.int x3), some (.int 1), some (.int x5), some (.int (x6 + 1)), none, none] [] (wr M 54 x5.toNatClampNeg ((M.1 54 (z_M_beside_37 M x5 x6).toNatClampNeg) + 1))) :
    WX mi_M_barrow 6 Q 91 [some (.ref 37), some (.int x1), some (.int x2), some (.int x3), some (.int x4), some (.int x5), some (.int x6), none, none] [] M := by
  refine WX.run (pc' := 94) (L' := [some (.ref 37), some (.int x1), some (.int x2), some (.int x3), some (.int x4), some (.int x5), some (.int x6), none, none]) (st' := [.int 4, .int x6]) (M' := M) (P := True) 2 rfl trivial ?_
  refine WX.icmp_ge (off := 144) (tgt := 238) rfl rfl (fun c1 => ?_) (fun c1 => ?_)
  · refine WX.run (pc' := 81) (L' := [some (.ref 37), some (.int x1), some (.int x2), some (.int x3), some (.int x4), some (.int (x5 + 1)), some (.int x6), none, none]) (st' := []) (M' := M) (P := True) 2 rfl trivial ?_
    refine WX.forget2 (L' := [some (.ref 37), some (.int x1), some (.int x2), some (.int x3), some (.int x4), some (.int (x5 + 1)), none, none, none]) ?_ ⟨Or.inr rfl, Or.inr rfl, Or.inr rfl, Or.inr rfl, Or.inr rfl, Or.inr rfl, Or.inl rfl, Or.inr rfl, Or.inr rfl, trivial⟩
    exact (h1 c1)
  · refine WX.run (pc' := 100) (L' := [some (.ref 37), some (.int x1), some (.int x2), some (.int x3), some (.int x4), some (.int x5), some (.int x6), none, none]) (st' := [.int x5, .ref 37]) (M' := M) (P := True) 2 rfl trivial ?_
    refine WX.callV (ca := mi_M_isThere) (n := 1) (d' := 3) (st := []) (As := [.int x5]) (q := 37) rfl lk_7_148 ck_M_isThere cv_M_isThere rfl (by decide) rfl (by decide) ⟨by decide, rfl, by decide⟩ (by intro w hw; simp only [List.mem_cons, List.not_mem_nil, or_false] at hw; rcases hw with rfl <;> rfl) (by decide) ?_
    refine wx_M_isThere_37 M x5 (b2 c1) ?_
    show WX mi_M_barrow 6 Q 103 [some (.ref 37), some (.int x1), some (.int x2), some (.int x3), some (.int x4), some (.int x5), some (.int x6), none, none] [.int (z_M_isThere_37 M x5)] M
    refine WX.if_eq (off := 135) (tgt := 238) rfl rfl (fun c2 => ?_) (fun c2 => ?_)
    · refine WX.run (pc' := 81) (L' := [some (.ref 37), some (.int x1), some (.int x2), some (.int x3), some (.int x4), some (.int (x5 + 1)), some (.int x6), none, none]) (st' := []) (M' := M) (P := True) 2 rfl trivial ?_
      refine WX.forget2 (L' := [some (.ref 37), some (.int x1), some (.int x2), some (.int x3), some (.int x4), some (.int (x5 + 1)), none, none, none]) ?_ ⟨Or.inr rfl, Or.inr rfl, Or.inr rfl, Or.inr rfl, Or.inr rfl, Or.inr rfl, Or.inl rfl, Or.inr rfl, Or.inr rfl, trivial⟩
      exact (h3 c1 c2)
    · refine WX.run (pc' := 109) (L' := [some (.ref 37), some (.int x1), some (.int x2), some (.int x3), some (.int x4), some (.int x5), some (.int x6), none, none]) (st' := [.int x5, .ref 37]) (M' := M) (P := True) 2 rfl trivial ?_
      refine WX.callV (ca := mi_M_isFirm) (n := 1) (d' := 5) (st := []) (As := [.int x5]) (q := 37) rfl lk_7_218 ck_M_isFirm cv_M_isFirm rfl (by decide) rfl (by decide) ⟨by decide, rfl, by decide⟩ (by intro w hw; simp only [List.mem_cons, List.not_mem_nil, or_false] at hw; rcases hw with rfl <;> rfl) (by decide) ?_
      refine wx_M_isFirm_37 M x5 (b4 c1 c2) ?_
      show WX mi_M_barrow 6 Q 112 [some (.ref 37), some (.int x1), some (.int x2), some (.int x3), some (.int x4), some (.int x5), some (.int x6), none, none] [.int (z_M_isFirm_37 M x5)] M
      refine WX.if_ne (off := 9) (tgt := 121) rfl rfl (fun c3 => ?_) (fun c3 => ?_)
      · refine WX.run (pc' := 126) (L' := [some (.ref 37), some (.int x1), some (.int x2), some (.int x3), some (.int x4), some (.int x5), some (.int x6), none, none]) (st' := [.int x6, .int x5, .ref 37]) (M' := M) (P := True) 3 rfl trivial ?_
        refine WX.callV (ca := mi_M_beside) (n := 2) (d' := 3) (st := []) (As := [.int x5, .int x6]) (q := 37) rfl lk_7_169 ck_M_beside cv_M_beside rfl (by decide) rfl (by decide) ⟨by decide, rfl, by decide⟩ (by intro w hw; simp only [List.mem_cons, List.not_mem_nil, or_false] at hw; rcases hw with rfl | rfl <;> rfl) (by decide) ?_
        refine wx_M_beside_37 M x5 x6 ?_
        show WX mi_M_barrow 6 Q 129 [some (.ref 37), some (.int x1), some (.int x2), some (.int x3), some (.int x4), some (.int x5), some (.int x6), none, none] [.int (z_M_beside_37 M x5 x6)] M
        refine WX.run (pc' := 135) (L' := [some (.ref 37), some (.int x1), some (.int x2), some (.int x3), some (.int x4), some (.int x5), some (.int x6), some (.int (z_M_beside_37 M x5 x6)), none]) (st' := [.int (-9), .int (z_M_beside_37 M x5 x6)]) (M' := M) (P := True) 3 rfl trivial ?_
        refine WX.icmp_eq (off := 46) (tgt := 181) rfl rfl (fun c4 => ?_) (fun c4 => ?_)
        · refine WX.run (pc' := 192) (L' := [some (.ref 37), some (.int x1), some (.int x2), some (.int x3), some (.int x4), some (.int x5), some (.int x6), some (.int (z_M_beside_37 M x5 x6)), some (.int 0)]) (st' := [.int 0, .int x5, .ref 54]) (M' := M) (P := True) 6 rfl trivial ?_
          refine WX.if_eq (off := 15) (tgt := 207) rfl rfl (fun c5 => ?_) (fun c5 => ?_)
          · refine WX.run (pc' := 217) (L' := [some (.ref 37), some (.int x1), some (.int x2), some (.int x3), some (.int x4), some (.int x5), some (.int x6), some (.int (z_M_beside_37 M x5 x6)), some (.int 0)]) (st' := [.int x4]) (M' := (wr M 54 x5.toNatClampNeg (M.1 54 x5.toNatClampNeg))) (P := ((True ∧ vp_in x5 16) ∧ vp_in x5 16)) 6 rfl ⟨⟨trivial, (b5 c1 c2 c3 c4 c5)⟩, (b5 c1 c2 c3 c4 c5)⟩ ?_
            refine WX.if_ne (off := 8) (tgt := 225) rfl rfl (fun c6 => ?_) (fun c6 => ?_)
            · refine WX.run (pc' := 91) (L' := [some (.ref 37), some (.int x1), some (.int x2), some (.int x3), some (.int 1), some (.int x5), some (.int (x6 + 1)), some (.int (z_M_beside_37 M x5 x6)), some (.int 0)]) (st' := []) (M' := (wr M 54 x5.toNatClampNeg (M.1 54 x5.toNatClampNeg))) (P := True) 5 rfl trivial ?_
              refine WX.forget2 (L' := [some (.ref 37), some (.int x1), some (.int x2), some (.int x3), some (.int 1), some (.int x5), some (.int (x6 + 1)), none, none]) ?_ ⟨Or.inr rfl, Or.inr rfl, Or.inr rfl, Or.inr rfl, Or.inr rfl, Or.inr rfl, Or.inr rfl, Or.inl rfl, Or.inl rfl, trivial⟩
              exact (h6 c1 c2 c3 c4 c5 c6)
            · refine WX.run (pc' := 222) (L' := [some (.ref 37), some (.int x1), some (.int x2), some (.int x3), some (.int x4), some (.int x5), some (.int x6), some (.int (z_M_beside_37 M x5 x6)), some (.int 0)]) (st' := [.int 0]) (M' := (wr M 54 x5.toNatClampNeg (M.1 54 x5.toNatClampNeg))) (P := True) 1 rfl trivial ?_
              refine WX.if_eq (off := 7) (tgt := 229) rfl rfl (fun c7 => ?_) (fun c7 => ?_)
              · refine WX.run (pc' := 91) (L' := [some (.ref 37), some (.int x1), some (.int x2), some (.int x3), some (.int 0), some (.int x5), some (.int (x6 + 1)), some (.int (z_M_beside_37 M x5 x6)), some (.int 0)]) (st' := []) (M' := (wr M 54 x5.toNatClampNeg (M.1 54 x5.toNatClampNeg))) (P := True) 4 rfl trivial ?_
                refine WX.forget2 (L' := [some (.ref 37), some (.int x1), some (.int x2), some (.int x3), some (.int 0), some (.int x5), some (.int (x6 + 1)), none, none]) ?_ ⟨Or.inr rfl, Or.inr rfl, Or.inr rfl, Or.inr rfl, Or.inr rfl, Or.inr rfl, Or.inr rfl, Or.inl rfl, Or.inl rfl, trivial⟩
                exact (h7 c1 c2 c3 c4 c5 c6 c7)
              · refine WX.run (pc' := 91) (L' := [some (.ref 37), some (.int x1), some (.int x2), some (.int x3), some (.int 1), some (.int x5), some (.int (x6 + 1)), some (.int (z_M_beside_37 M x5 x6)), some (.int 0)]) (st' := []) (M' := (wr M 54 x5.toNatClampNeg (M.1 54 x5.toNatClampNeg))) (P := True) 5 rfl trivial ?_
                refine WX.forget2 (L' := [some (.ref 37), some (.int x1), some (.int x2), some (.int x3), some (.int 1), some (.int x5), some (.int (x6 + 1)), none, none]) ?_ ⟨Or.inr rfl, Or.inr rfl, Or.inr rfl, Or.inr rfl, Or.inr rfl, Or.inr rfl, Or.inr rfl, Or.inl rfl, Or.inl rfl, trivial⟩
                exact (h8 c1 c2 c3 c4 c5 c6 c7)
          · refine WX.run (pc' := 217) (L' := [some (.ref 37), some (.int x1), some (.int x2), some (.int x3), some (.int x4), some (.int x5), some (.int x6), some (.int (z_M_beside_37 M x5 x6)), some (.int 0)]) (st' := [.int x4]) (M' := (wr M 54 x5.toNatClampNeg ((M.1 54 (z_M_beside_37 M x5 x6).toNatClampNeg) + 1))) (P := ((True ∧ vp_in (z_M_beside_37 M x5 x6) 16) ∧ vp_in x5 16)) 9 rfl ⟨⟨trivial, (b9 c1 c2 c3 c4 c5)⟩, (b10 c1 c2 c3 c4 c5)⟩ ?_
            refine WX.if_ne (off := 8) (tgt := 225) rfl rfl (fun c8 => ?_) (fun c8 => ?_)
            · refine WX.run (pc' := 91) (L' := [some (.ref 37), some (.int x1), some (.int x2), some (.int x3), some (.int 1), some (.int x5), some (.int (x6 + 1)), some (.int (z_M_beside_37 M x5 x6)), some (.int 0)]) (st' := []) (M' := (wr M 54 x5.toNatClampNeg ((M.1 54 (z_M_beside_37 M x5 x6).toNatClampNeg) + 1))) (P := True) 5 rfl trivial ?_
              refine WX.forget2 (L' := [some (.ref 37), some (.int x1), some (.int x2), some (.int x3), some (.int 1), some (.int x5), some (.int (x6 + 1)), none, none]) ?_ ⟨Or.inr rfl, Or.inr rfl, Or.inr rfl, Or.inr rfl, Or.inr rfl, Or.inr rfl, Or.inr rfl, Or.inl rfl, Or.inl rfl, trivial⟩
              exact (h11 c1 c2 c3 c4 c5 c8)
            · refine WX.run (pc' := 222) (L' := [some (.ref 37), some (.int x1), some (.int x2), some (.int x3), some (.int x4), some (.int x5), some (.int x6), some (.int (z_M_beside_37 M x5 x6)), some (.int 0)]) (st' := [.int 0]) (M' := (wr M 54 x5.toNatClampNeg ((M.1 54 (z_M_beside_37 M x5 x6).toNatClampNeg) + 1))) (P := True) 1 rfl trivial ?_
              refine WX.if_eq (off := 7) (tgt := 229) rfl rfl (fun c9 => ?_) (fun c9 => ?_)
              · refine WX.run (pc' := 91) (L' := [some (.ref 37), some (.int x1), some (.int x2), some (.int x3), some (.int 0), some (.int x5), some (.int (x6 + 1)), some (.int (z_M_beside_37 M x5 x6)), some (.int 0)]) (st' := []) (M' := (wr M 54 x5.toNatClampNeg ((M.1 54 (z_M_beside_37 M x5 x6).toNatClampNeg) + 1))) (P := True) 4 rfl trivial ?_
                refine WX.forget2 (L' := [some (.ref 37), some (.int x1), some (.int x2), some (.int x3), some (.int 0), some (.int x5), some (.int (x6 + 1)), none, none]) ?_ ⟨Or.inr rfl, Or.inr rfl, Or.inr rfl, Or.inr rfl, Or.inr rfl, Or.inr rfl, Or.inr rfl, Or.inl rfl, Or.inl rfl, trivial⟩
                exact (h12 c1 c2 c3 c4 c5 c8 c9)
              · refine WX.run (pc' := 91) (L' := [some (.ref 37), some (.int x1), some (.int x2), some (.int x3), some (.int 1), some (.int x5), some (.int (x6 + 1)), some (.int (z_M_beside_37 M x5 x6)), some (.int 0)]) (st' := []) (M' := (wr M 54 x5.toNatClampNeg ((M.1 54 (z_M_beside_37 M x5 x6).toNatClampNeg) + 1))) (P := True) 5 rfl trivial ?_
                refine WX.forget2 (L' := [some (.ref 37), some (.int x1), some (.int x2), some (.int x3), some (.int 1), some (.int x5), some (.int (x6 + 1)), none, none]) ?_ ⟨Or.inr rfl, Or.inr rfl, Or.inr rfl, Or.inr rfl, Or.inr rfl, Or.inr rfl, Or.inr rfl, Or.inl rfl, Or.inl rfl, trivial⟩
                exact (h13 c1 c2 c3 c4 c5 c8 c9)
        · refine WX.run (pc' := 146) (L' := [some (.ref 37), some (.int x1), some (.int x2), some (.int x3), some (.int x4), some (.int x5), some (.int x6), some (.int (z_M_beside_37 M x5 x6)), none]) (st' := [.int (M.1 43 0), .int x5]) (M' := M) (P := (True ∧ vp_in 0 2)) 5 rfl ⟨trivial, (vp_lit rfl)⟩ ?_
          refine WX.icmp_eq (off := 35) (tgt := 181) rfl rfl (fun c10 => ?_) (fun c10 => ?_)
          · refine WX.run (pc' := 192) (L' := [some (.ref 37), some (.int x1), some (.int x2), some (.int x3), some (.int x4), some (.int x5), some (.int x6), some (.int (z_M_beside_37 M x5 x6)), some (.int 0)]) (st' := [.int 0, .int x5, .ref 54]) (M' := M) (P := True) 6 rfl trivial ?_
            refine WX.if_eq (off := 15) (tgt := 207) rfl rfl (fun c11 => ?_) (fun c11 => ?_)
            · refine WX.run (pc' := 217) (L' := [some (.ref 37), some (.int x1), some (.int x2), some (.int x3), some (.int x4), some (.int x5), some (.int x6), some (.int (z_M_beside_37 M x5 x6)), some (.int 0)]) (st' := [.int x4]) (M' := (wr M 54 x5.toNatClampNeg (M.1 54 x5.toNatClampNeg))) (P := ((True ∧ vp_in x5 16) ∧ vp_in x5 16)) 6 rfl ⟨⟨trivial, (b14 c1 c2 c3 c4 c10 c11)⟩, (b14 c1 c2 c3 c4 c10 c11)⟩ ?_
              refine WX.if_ne (off := 8) (tgt := 225) rfl rfl (fun c12 => ?_) (fun c12 => ?_)
              · refine WX.run (pc' := 91) (L' := [some (.ref 37), some (.int x1), some (.int x2), some (.int x3), some (.int 1), some (.int x5), some (.int (x6 + 1)), some (.int (z_M_beside_37 M x5 x6)), some (.int 0)]) (st' := []) (M' := (wr M 54 x5.toNatClampNeg (M.1 54 x5.toNatClampNeg))) (P := True) 5 rfl trivial ?_
                refine WX.forget2 (L' := [some (.ref 37), some (.int x1), some (.int x2), some (.int x3), some (.int 1), some (.int x5), some (.int (x6 + 1)), none, none]) ?_ ⟨Or.inr rfl, Or.inr rfl, Or.inr rfl, Or.inr rfl, Or.inr rfl, Or.inr rfl, Or.inr rfl, Or.inl rfl, Or.inl rfl, trivial⟩
                exact (h15 c1 c2 c3 c4 c10 c11 c12)
              · refine WX.run (pc' := 222) (L' := [some (.ref 37), some (.int x1), some (.int x2), some (.int x3), some (.int x4), some (.int x5), some (.int x6), some (.int (z_M_beside_37 M x5 x6)), some (.int 0)]) (st' := [.int 0]) (M' := (wr M 54 x5.toNatClampNeg (M.1 54 x5.toNatClampNeg))) (P := True) 1 rfl trivial ?_
                refine WX.if_eq (off := 7) (tgt := 229) rfl rfl (fun c13 => ?_) (fun c13 => ?_)
                · refine WX.run (pc' := 91) (L' := [some (.ref 37), some (.int x1), some (.int x2), some (.int x3), some (.int 0), some (.int x5), some (.int (x6 + 1)), some (.int (z_M_beside_37 M x5 x6)), some (.int 0)]) (st' := []) (M' := (wr M 54 x5.toNatClampNeg (M.1 54 x5.toNatClampNeg))) (P := True) 4 rfl trivial ?_
                  refine WX.forget2 (L' := [some (.ref 37), some (.int x1), some (.int x2), some (.int x3), some (.int 0), some (.int x5), some (.int (x6 + 1)), none, none]) ?_ ⟨Or.inr rfl, Or.inr rfl, Or.inr rfl, Or.inr rfl, Or.inr rfl, Or.inr rfl, Or.inr rfl, Or.inl rfl, Or.inl rfl, trivial⟩
                  exact (h16 c1 c2 c3 c4 c10 c11 c12 c13)
                · refine WX.run (pc' := 91) (L' := [some (.ref 37), some (.int x1), some (.int x2), some (.int x3), some (.int 1), some (.int x5), some (.int (x6 + 1)), some (.int (z_M_beside_37 M x5 x6)), some (.int 0)]) (st' := []) (M' := (wr M 54 x5.toNatClampNeg (M.1 54 x5.toNatClampNeg))) (P := True) 5 rfl trivial ?_
                  refine WX.forget2 (L' := [some (.ref 37), some (.int x1), some (.int x2), some (.int x3), some (.int 1), some (.int x5), some (.int (x6 + 1)), none, none]) ?_ ⟨Or.inr rfl, Or.inr rfl, Or.inr rfl, Or.inr rfl, Or.inr rfl, Or.inr rfl, Or.inr rfl, Or.inl rfl, Or.inl rfl, trivial⟩
                  exact (h17 c1 c2 c3 c4 c10 c11 c12 c13)
            · refine WX.run (pc' := 217) (L' := [some (.ref 37), some (.int x1), some (.int x2), some (.int x3), some (.int x4), some (.int x5), some (.int x6), some (.int (z_M_beside_37 M x5 x6)), some (.int 0)]) (st' := [.int x4]) (M' := (wr M 54 x5.toNatClampNeg ((M.1 54 (z_M_beside_37 M x5 x6).toNatClampNeg) + 1))) (P := ((True ∧ vp_in (z_M_beside_37 M x5 x6) 16) ∧ vp_in x5 16)) 9 rfl ⟨⟨trivial, (b18 c1 c2 c3 c4 c10 c11)⟩, (b19 c1 c2 c3 c4 c10 c11)⟩ ?_
              refine WX.if_ne (off := 8) (tgt := 225) rfl rfl (fun c14 => ?_) (fun c14 => ?_)
              · refine WX.run (pc' := 91) (L' := [some (.ref 37), some (.int x1), some (.int x2), some (.int x3), some (.int 1), some (.int x5), some (.int (x6 + 1)), some (.int (z_M_beside_37 M x5 x6)), some (.int 0)]) (st' := []) (M' := (wr M 54 x5.toNatClampNeg ((M.1 54 (z_M_beside_37 M x5 x6).toNatClampNeg) + 1))) (P := True) 5 rfl trivial ?_
                refine WX.forget2 (L' := [some (.ref 37), some (.int x1), some (.int x2), some (.int x3), some (.int 1), some (.int x5), some (.int (x6 + 1)), none, none]) ?_ ⟨Or.inr rfl, Or.inr rfl, Or.inr rfl, Or.inr rfl, Or.inr rfl, Or.inr rfl, Or.inr rfl, Or.inl rfl, Or.inl rfl, trivial⟩
                exact (h20 c1 c2 c3 c4 c10 c11 c14)
              · refine WX.run (pc' := 222) (L' := [some (.ref 37), some (.int x1), some (.int x2), some (.int x3), some (.int x4), some (.int x5), some (.int x6), some (.int (z_M_beside_37 M x5 x6)), some (.int 0)]) (st' := [.int 0]) (M' := (wr M 54 x5.toNatClampNeg ((M.1 54 (z_M_beside_37 M x5 x6).toNatClampNeg) + 1))) (P := True) 1 rfl trivial ?_
                refine WX.if_eq (off := 7) (tgt := 229) rfl rfl (fun c15 => ?_) (fun c15 => ?_)
                · refine WX.run (pc' := 91) (L' := [some (.ref 37), some (.int x1), some (.int x2), some (.int x3), some (.int 0), some (.int x5), some (.int (x6 + 1)), some (.int (z_M_beside_37 M x5 x6)), some (.int 0)]) (st' := []) (M' := (wr M 54 x5.toNatClampNeg ((M.1 54 (z_M_beside_37 M x5 x6).toNatClampNeg) + 1))) (P := True) 4 rfl trivial ?_
                  refine WX.forget2 (L' := [some (.ref 37), some (.int x1), some (.int x2), some (.int x3), some (.int 0), some (.int x5), some (.int (x6 + 1)), none, none]) ?_ ⟨Or.inr rfl, Or.inr rfl, Or.inr rfl, Or.inr rfl, Or.inr rfl, Or.inr rfl, Or.inr rfl, Or.inl rfl, Or.inl rfl, trivial⟩
                  exact (h21 c1 c2 c3 c4 c10 c11 c14 c15)
                · refine WX.run (pc' := 91) (L' := [some (.ref 37), some (.int x1), some (.int x2), some (.int x3), some (.int 1), some (.int x5), some (.int (x6 + 1)), some (.int (z_M_beside_37 M x5 x6)), some (.int 0)]) (st' := []) (M' := (wr M 54 x5.toNatClampNeg ((M.1 54 (z_M_beside_37 M x5 x6).toNatClampNeg) + 1))) (P := True) 5 rfl trivial ?_
                  refine WX.forget2 (L' := [some (.ref 37), some (.int x1), some (.int x2), some (.int x3), some (.int 1), some (.int x5), some (.int (x6 + 1)), none, none]) ?_ ⟨Or.inr rfl, Or.inr rfl, Or.inr rfl, Or.inr rfl, Or.inr rfl, Or.inr rfl, Or.inr rfl, Or.inl rfl, Or.inl rfl, trivial⟩
                  exact (h22 c1 c2 c3 c4 c10 c11 c14 c15)
          · refine WX.run (pc' := 152) (L' := [some (.ref 37), some (.int x1), some (.int x2), some (.int x3), some (.int x4), some (.int x5), some (.int x6), some (.int (z_M_beside_37 M x5 x6)), none]) (st' := [.int (z_M_beside_37 M x5 x6), .ref 37]) (M' := M) (P := True) 2 rfl trivial ?_
            refine WX.callV (ca := mi_M_isFirm) (n := 1) (d' := 5) (st := []) (As := [.int (z_M_beside_37 M x5 x6)]) (q := 37) rfl lk_7_218 ck_M_isFirm cv_M_isFirm rfl (by decide) rfl (by decide) ⟨by decide, rfl, by decide⟩ (by intro w hw; simp only [List.mem_cons, List.not_mem_nil, or_false] at hw; rcases hw with rfl <;> rfl) (by decide) ?_
            refine wx_M_isFirm_37 M (z_M_beside_37 M x5 x6) (b23 c1 c2 c3 c4 c10) ?_
            show WX mi_M_barrow 6 Q 155 [some (.ref 37), some (.int x1), some (.int x2), some (.int x3), some (.int x4), some (.int x5), some (.int x6), some (.int (z_M_beside_37 M x5 x6)), none] [.int (z_M_isFirm_37 M (z_M_beside_37 M x5 x6))] M
            refine WX.if_eq (off := 26) (tgt := 181) rfl rfl (fun c16 => ?_) (fun c16 => ?_)
            · refine WX.run (pc' := 192) (L' := [some (.ref 37), some (.int x1), some (.int x2), some (.int x3), some (.int x4), some (.int x5), some (.int x6), some (.int (z_M_beside_37 M x5 x6)), some (.int 0)]) (st' := [.int 0, .int x5, .ref 54]) (M' := M) (P := True) 6 rfl trivial ?_
              refine WX.if_eq (off := 15) (tgt := 207) rfl rfl (fun c17 => ?_) (fun c17 => ?_)
              · refine WX.run (pc' := 217) (L' := [some (.ref 37), some (.int x1), some (.int x2), some (.int x3), some (.int x4), some (.int x5), some (.int x6), some (.int (z_M_beside_37 M x5 x6)), some (.int 0)]) (st' := [.int x4]) (M' := (wr M 54 x5.toNatClampNeg (M.1 54 x5.toNatClampNeg))) (P := ((True ∧ vp_in x5 16) ∧ vp_in x5 16)) 6 rfl ⟨⟨trivial, (b24 c1 c2 c3 c4 c10 c16 c17)⟩, (b24 c1 c2 c3 c4 c10 c16 c17)⟩ ?_
                refine WX.if_ne (off := 8) (tgt := 225) rfl rfl (fun c18 => ?_) (fun c18 => ?_)
                · refine WX.run (pc' := 91) (L' := [some (.ref 37), some (.int x1), some (.int x2), some (.int x3), some (.int 1), some (.int x5), some (.int (x6 + 1)), some (.int (z_M_beside_37 M x5 x6)), some (.int 0)]) (st' := []) (M' := (wr M 54 x5.toNatClampNeg (M.1 54 x5.toNatClampNeg))) (P := True) 5 rfl trivial ?_
                  refine WX.forget2 (L' := [some (.ref 37), some (.int x1), some (.int x2), some (.int x3), some (.int 1), some (.int x5), some (.int (x6 + 1)), none, none]) ?_ ⟨Or.inr rfl, Or.inr rfl, Or.inr rfl, Or.inr rfl, Or.inr rfl, Or.inr rfl, Or.inr rfl, Or.inl rfl, Or.inl rfl, trivial⟩
                  exact (h25 c1 c2 c3 c4 c10 c16 c17 c18)
                · refine WX.run (pc' := 222) (L' := [some (.ref 37), some (.int x1), some (.int x2), some (.int x3), some (.int x4), some (.int x5), some (.int x6), some (.int (z_M_beside_37 M x5 x6)), some (.int 0)]) (st' := [.int 0]) (M' := (wr M 54 x5.toNatClampNeg (M.1 54 x5.toNatClampNeg))) (P := True) 1 rfl trivial ?_
                  refine WX.if_eq (off := 7) (tgt := 229) rfl rfl (fun c19 => ?_) (fun c19 => ?_)
                  · refine WX.run (pc' := 91) (L' := [some (.ref 37), some (.int x1), some (.int x2), some (.int x3), some (.int 0), some (.int x5), some (.int (x6 + 1)), some (.int (z_M_beside_37 M x5 x6)), some (.int 0)]) (st' := []) (M' := (wr M 54 x5.toNatClampNeg (M.1 54 x5.toNatClampNeg))) (P := True) 4 rfl trivial ?_
                    refine WX.forget2 (L' := [some (.ref 37), some (.int x1), some (.int x2), some (.int x3), some (.int 0), some (.int x5), some (.int (x6 + 1)), none, none]) ?_ ⟨Or.inr rfl, Or.inr rfl, Or.inr rfl, Or.inr rfl, Or.inr rfl, Or.inr rfl, Or.inr rfl, Or.inl rfl, Or.inl rfl, trivial⟩
                    exact (h26 c1 c2 c3 c4 c10 c16 c17 c18 c19)
                  · refine WX.run (pc' := 91) (L' := [some (.ref 37), some (.int x1), some (.int x2), some (.int x3), some (.int 1), some (.int x5), some (.int (x6 + 1)), some (.int (z_M_beside_37 M x5 x6)), some (.int 0)]) (st' := []) (M' := (wr M 54 x5.toNatClampNeg (M.1 54 x5.toNatClampNeg))) (P := True) 5 rfl trivial ?_
                    refine WX.forget2 (L' := [some (.ref 37), some (.int x1), some (.int x2), some (.int x3), some (.int 1), some (.int x5), some (.int (x6 + 1)), none, none]) ?_ ⟨Or.inr rfl, Or.inr rfl, Or.inr rfl, Or.inr rfl, Or.inr rfl, Or.inr rfl, Or.inr rfl, Or.inl rfl, Or.inl rfl, trivial⟩
                    exact (h27 c1 c2 c3 c4 c10 c16 c17 c18 c19)
              · refine WX.run (pc' := 217) (L' := [some (.ref 37), some (.int x1), some (.int x2), some (.int x3), some (.int x4), some (.int x5), some (.int x6), some (.int (z_M_beside_37 M x5 x6)), some (.int 0)]) (st' := [.int x4]) (M' := (wr M 54 x5.toNatClampNeg ((M.1 54 (z_M_beside_37 M x5 x6).toNatClampNeg) + 1))) (P := ((True ∧ vp_in (z_M_beside_37 M x5 x6) 16) ∧ vp_in x5 16)) 9 rfl ⟨⟨trivial, (b28 c1 c2 c3 c4 c10 c16 c17)⟩, (b29 c1 c2 c3 c4 c10 c16 c17)⟩ ?_
                refine WX.if_ne (off := 8) (tgt := 225) rfl rfl (fun c20 => ?_) (fun c20 => ?_)
                · refine WX.run (pc' := 91) (L' := [some (.ref 37), some (.int x1), some (.int x2), some (.int x3), some (.int 1), some (.int x5), some (.int (x6 + 1)), some (.int (z_M_beside_37 M x5 x6)), some (.int 0)]) (st' := []) (M' := (wr M 54 x5.toNatClampNeg ((M.1 54 (z_M_beside_37 M x5 x6).toNatClampNeg) + 1))) (P := True) 5 rfl trivial ?_
                  refine WX.forget2 (L' := [some (.ref 37), some (.int x1), some (.int x2), some (.int x3), some (.int 1), some (.int x5), some (.int (x6 + 1)), none, none]) ?_ ⟨Or.inr rfl, Or.inr rfl, Or.inr rfl, Or.inr rfl, Or.inr rfl, Or.inr rfl, Or.inr rfl, Or.inl rfl, Or.inl rfl, trivial⟩
                  exact (h30 c1 c2 c3 c4 c10 c16 c17 c20)
                · refine WX.run (pc' := 222) (L' := [some (.ref 37), some (.int x1), some (.int x2), some (.int x3), some (.int x4), some (.int x5), some (.int x6), some (.int (z_M_beside_37 M x5 x6)), some (.int 0)]) (st' := [.int 0]) (M' := (wr M 54 x5.toNatClampNeg ((M.1 54 (z_M_beside_37 M x5 x6).toNatClampNeg) + 1))) (P := True) 1 rfl trivial ?_
                  refine WX.if_eq (off := 7) (tgt := 229) rfl rfl (fun c21 => ?_) (fun c21 => ?_)
                  · refine WX.run (pc' := 91) (L' := [some (.ref 37), some (.int x1), some (.int x2), some (.int x3), some (.int 0), some (.int x5), some (.int (x6 + 1)), some (.int (z_M_beside_37 M x5 x6)), some (.int 0)]) (st' := []) (M' := (wr M 54 x5.toNatClampNeg ((M.1 54 (z_M_beside_37 M x5 x6).toNatClampNeg) + 1))) (P := True) 4 rfl trivial ?_
                    refine WX.forget2 (L' := [some (.ref 37), some (.int x1), some (.int x2), some (.int x3), some (.int 0), some (.int x5), some (.int (x6 + 1)), none, none]) ?_ ⟨Or.inr rfl, Or.inr rfl, Or.inr rfl, Or.inr rfl, Or.inr rfl, Or.inr rfl, Or.inr rfl, Or.inl rfl, Or.inl rfl, trivial⟩
                    exact (h31 c1 c2 c3 c4 c10 c16 c17 c20 c21)
                  · refine WX.run (pc' := 91) (L' := [some (.ref 37), some (.int x1), some (.int x2), some (.int x3), some (.int 1), some (.int x5), some (.int (x6 + 1)), some (.int (z_M_beside_37 M x5 x6)), some (.int 0)]) (st' := []) (M' := (wr M 54 x5.toNatClampNeg ((M.1 54 (z_M_beside_37 M x5 x6).toNatClampNeg) + 1))) (P := True) 5 rfl trivial ?_
                    refine WX.forget2 (L' := [some (.ref 37), some (.int x1), some (.int x2), some (.int x3), some (.int 1), some (.int x5), some (.int (x6 + 1)), none, none]) ?_ ⟨Or.inr rfl, Or.inr rfl, Or.inr rfl, Or.inr rfl, Or.inr rfl, Or.inr rfl, Or.inr rfl, Or.inl rfl, Or.inl rfl, trivial⟩
                    exact (h32 c1 c2 c3 c4 c10 c16 c17 c20 c21)
            · refine WX.run (pc' := 174) (L' := [some (.ref 37), some (.int x1), some (.int x2), some (.int x3), some (.int x4), some (.int x5), some (.int x6), some (.int (z_M_beside_37 M x5 x6)), none]) (st' := [.int (M.1 54 x5.toNatClampNeg), .int ((M.1 54 (z_M_beside_37 M x5 x6).toNatClampNeg) + 1)]) (M' := M) (P := ((True ∧ vp_in (z_M_beside_37 M x5 x6) 16) ∧ vp_in x5 16)) 10 rfl ⟨⟨trivial, (b33 c1 c2 c3 c4 c10 c16)⟩, (b34 c1 c2 c3 c4 c10 c16)⟩ ?_
              refine WX.icmp_ge (off := 7) (tgt := 181) rfl rfl (fun c22 => ?_) (fun c22 => ?_)
              · refine WX.run (pc' := 192) (L' := [some (.ref 37), some (.int x1), some (.int x2), some (.int x3), some (.int x4), some (.int x5), some (.int x6), some (.int (z_M_beside_37 M x5 x6)), some (.int 0)]) (st' := [.int 0, .int x5, .ref 54]) (M' := M) (P := True) 6 rfl trivial ?_
                refine WX.if_eq (off := 15) (tgt := 207) rfl rfl (fun c23 => ?_) (fun c23 => ?_)
                · refine WX.run (pc' := 217) (L' := [some (.ref 37), some (.int x1), some (.int x2), some (.int x3), some (.int x4), some (.int x5), some (.int x6), some (.int (z_M_beside_37 M x5 x6)), some (.int 0)]) (st' := [.int x4]) (M' := (wr M 54 x5.toNatClampNeg (M.1 54 x5.toNatClampNeg))) (P := ((True ∧ vp_in x5 16) ∧ vp_in x5 16)) 6 rfl ⟨⟨trivial, (b35 c1 c2 c3 c4 c10 c16 c22 c23)⟩, (b35 c1 c2 c3 c4 c10 c16 c22 c23)⟩ ?_
                  refine WX.if_ne (off := 8) (tgt := 225) rfl rfl (fun c24 => ?_) (fun c24 => ?_)
                  · refine WX.run (pc' := 91) (L' := [some (.ref 37), some (.int x1), some (.int x2), some (.int x3), some (.int 1), some (.int x5), some (.int (x6 + 1)), some (.int (z_M_beside_37 M x5 x6)), some (.int 0)]) (st' := []) (M' := (wr M 54 x5.toNatClampNeg (M.1 54 x5.toNatClampNeg))) (P := True) 5 rfl trivial ?_
                    refine WX.forget2 (L' := [some (.ref 37), some (.int x1), some (.int x2), some (.int x3), some (.int 1), some (.int x5), some (.int (x6 + 1)), none, none]) ?_ ⟨Or.inr rfl, Or.inr rfl, Or.inr rfl, Or.inr rfl, Or.inr rfl, Or.inr rfl, Or.inr rfl, Or.inl rfl, Or.inl rfl, trivial⟩
                    exact (h36 c1 c2 c3 c4 c10 c16 c22 c23 c24)
                  · refine WX.run (pc' := 222) (L' := [some (.ref 37), some (.int x1), some (.int x2), some (.int x3), some (.int x4), some (.int x5), some (.int x6), some (.int (z_M_beside_37 M x5 x6)), some (.int 0)]) (st' := [.int 0]) (M' := (wr M 54 x5.toNatClampNeg (M.1 54 x5.toNatClampNeg))) (P := True) 1 rfl trivial ?_
                    refine WX.if_eq (off := 7) (tgt := 229) rfl rfl (fun c25 => ?_) (fun c25 => ?_)
                    · refine WX.run (pc' := 91) (L' := [some (.ref 37), some (.int x1), some (.int x2), some (.int x3), some (.int 0), some (.int x5), some (.int (x6 + 1)), some (.int (z_M_beside_37 M x5 x6)), some (.int 0)]) (st' := []) (M' := (wr M 54 x5.toNatClampNeg (M.1 54 x5.toNatClampNeg))) (P := True) 4 rfl trivial ?_
                      refine WX.forget2 (L' := [some (.ref 37), some (.int x1), some (.int x2), some (.int x3), some (.int 0), some (.int x5), some (.int (x6 + 1)), none, none]) ?_ ⟨Or.inr rfl, Or.inr rfl, Or.inr rfl, Or.inr rfl, Or.inr rfl, Or.inr rfl, Or.inr rfl, Or.inl rfl, Or.inl rfl, trivial⟩
                      exact (h37 c1 c2 c3 c4 c10 c16 c22 c23 c24 c25)
                    · refine WX.run (pc' := 91) (L' := [some (.ref 37), some (.int x1), some (.int x2), some (.int x3), some (.int 1), some (.int x5), some (.int (x6 + 1)), some (.int (z_M_beside_37 M x5 x6)), some (.int 0)]) (st' := []) (M' := (wr M 54 x5.toNatClampNeg (M.1 54 x5.toNatClampNeg))) (P := True) 5 rfl trivial ?_
                      refine WX.forget2 (L' := [some (.ref 37), some (.int x1), some (.int x2), some (.int x3), some (.int 1), some (.int x5), some (.int (x6 + 1)), none, none]) ?_ ⟨Or.inr rfl, Or.inr rfl, Or.inr rfl, Or.inr rfl, Or.inr rfl, Or.inr rfl, Or.inr rfl, Or.inl rfl, Or.inl rfl, trivial⟩
                      exact (h38 c1 c2 c3 c4 c10 c16 c22 c23 c24 c25)
                · refine WX.run (pc' := 217) (L' := [some (.ref 37), some (.int x1), some (.int x2), some (.int x3), some (.int x4), some (.int x5), some (.int x6), some (.int (z_M_beside_37 M x5 x6)), some (.int 0)]) (st' := [.int x4]) (M' := (wr M 54 x5.toNatClampNeg ((M.1 54 (z_M_beside_37 M x5 x6).toNatClampNeg) + 1))) (P := ((True ∧ vp_in (z_M_beside_37 M x5 x6) 16) ∧ vp_in x5 16)) 9 rfl ⟨⟨trivial, (b39 c1 c2 c3 c4 c10 c16 c22 c23)⟩, (b40 c1 c2 c3 c4 c10 c16 c22 c23)⟩ ?_
                  refine WX.if_ne (off := 8) (tgt := 225) rfl rfl (fun c26 => ?_) (fun c26 => ?_)
                  · refine WX.run (pc' := 91) (L' := [some (.ref 37), some (.int x1), some (.int x2), some (.int x3), some (.int 1), some (.int x5), some (.int (x6 + 1)), some (.int (z_M_beside_37 M x5 x6)), some (.int 0)]) (st' := []) (M' := (wr M 54 x5.toNatClampNeg ((M.1 54 (z_M_beside_37 M x5 x6).toNatClampNeg) + 1))) (P := True) 5 rfl trivial ?_
                    refine WX.forget2 (L' := [some (.ref 37), some (.int x1), some (.int x2), some (.int x3), some (.int 1), some (.int x5), some (.int (x6 + 1)), none, none]) ?_ ⟨Or.inr rfl, Or.inr rfl, Or.inr rfl, Or.inr rfl, Or.inr rfl, Or.inr rfl, Or.inr rfl, Or.inl rfl, Or.inl rfl, trivial⟩
                    exact (h41 c1 c2 c3 c4 c10 c16 c22 c23 c26)
                  · refine WX.run (pc' := 222) (L' := [some (.ref 37), some (.int x1), some (.int x2), some (.int x3), some (.int x4), some (.int x5), some (.int x6), some (.int (z_M_beside_37 M x5 x6)), some (.int 0)]) (st' := [.int 0]) (M' := (wr M 54 x5.toNatClampNeg ((M.1 54 (z_M_beside_37 M x5 x6).toNatClampNeg) + 1))) (P := True) 1 rfl trivial ?_
                    refine WX.if_eq (off := 7) (tgt := 229) rfl rfl (fun c27 => ?_) (fun c27 => ?_)
                    · refine WX.run (pc' := 91) (L' := [some (.ref 37), some (.int x1), some (.int x2), some (.int x3), some (.int 0), some (.int x5), some (.int (x6 + 1)), some (.int (z_M_beside_37 M x5 x6)), some (.int 0)]) (st' := []) (M' := (wr M 54 x5.toNatClampNeg ((M.1 54 (z_M_beside_37 M x5 x6).toNatClampNeg) + 1))) (P := True) 4 rfl trivial ?_
                      refine WX.forget2 (L' := [some (.ref 37), some (.int x1), some (.int x2), some (.int x3), some (.int 0), some (.int x5), some (.int (x6 + 1)), none, none]) ?_ ⟨Or.inr rfl, Or.inr rfl, Or.inr rfl, Or.inr rfl, Or.inr rfl, Or.inr rfl, Or.inr rfl, Or.inl rfl, Or.inl rfl, trivial⟩
                      exact (h42 c1 c2 c3 c4 c10 c16 c22 c23 c26 c27)
                    · refine WX.run (pc' := 91) (L' := [some (.ref 37), some (.int x1), some (.int x2), some (.int x3), some (.int 1), some (.int x5), some (.int (x6 + 1)), some (.int (z_M_beside_37 M x5 x6)), some (.int 0)]) (st' := []) (M' := (wr M 54 x5.toNatClampNeg ((M.1 54 (z_M_beside_37 M x5 x6).toNatClampNeg) + 1))) (P := True) 5 rfl trivial ?_
                      refine WX.forget2 (L' := [some (.ref 37), some (.int x1), some (.int x2), some (.int x3), some (.int 1), some (.int x5), some (.int (x6 + 1)), none, none]) ?_ ⟨Or.inr rfl, Or.inr rfl, Or.inr rfl, Or.inr rfl, Or.inr rfl, Or.inr rfl, Or.inr rfl, Or.inl rfl, Or.inl rfl, trivial⟩
                      exact (h43 c1 c2 c3 c4 c10 c16 c22 c23 c26 c27)
              · refine WX.run (pc' := 192) (L' := [some (.ref 37), some (.int x1), some (.int x2), some (.int x3), some (.int x4), some (.int x5), some (.int x6), some (.int (z_M_beside_37 M x5 x6)), some (.int 1)]) (st' := [.int 1, .int x5, .ref 54]) (M' := M) (P := True) 7 rfl trivial ?_
                refine WX.if_eq (off := 15) (tgt := 207) rfl rfl (fun c28 => ?_) (fun c28 => ?_)
                · refine WX.run (pc' := 217) (L' := [some (.ref 37), some (.int x1), some (.int x2), some (.int x3), some (.int x4), some (.int x5), some (.int x6), some (.int (z_M_beside_37 M x5 x6)), some (.int 1)]) (st' := [.int x4]) (M' := (wr M 54 x5.toNatClampNeg (M.1 54 x5.toNatClampNeg))) (P := ((True ∧ vp_in x5 16) ∧ vp_in x5 16)) 6 rfl ⟨⟨trivial, (b44 c1 c2 c3 c4 c10 c16 c22 c28)⟩, (b44 c1 c2 c3 c4 c10 c16 c22 c28)⟩ ?_
                  refine WX.if_ne (off := 8) (tgt := 225) rfl rfl (fun c29 => ?_) (fun c29 => ?_)
                  · refine WX.run (pc' := 91) (L' := [some (.ref 37), some (.int x1), some (.int x2), some (.int x3), some (.int 1), some (.int x5), some (.int (x6 + 1)), some (.int (z_M_beside_37 M x5 x6)), some (.int 1)]) (st' := []) (M' := (wr M 54 x5.toNatClampNeg (M.1 54 x5.toNatClampNeg))) (P := True) 5 rfl trivial ?_
                    refine WX.forget2 (L' := [some (.ref 37), some (.int x1), some (.int x2), some (.int x3), some (.int 1), some (.int x5), some (.int (x6 + 1)), none, none]) ?_ ⟨Or.inr rfl, Or.inr rfl, Or.inr rfl, Or.inr rfl, Or.inr rfl, Or.inr rfl, Or.inr rfl, Or.inl rfl, Or.inl rfl, trivial⟩
                    exact (h45 c1 c2 c3 c4 c10 c16 c22 c28 c29)
                  · refine WX.run (pc' := 222) (L' := [some (.ref 37), some (.int x1), some (.int x2), some (.int x3), some (.int x4), some (.int x5), some (.int x6), some (.int (z_M_beside_37 M x5 x6)), some (.int 1)]) (st' := [.int 1]) (M' := (wr M 54 x5.toNatClampNeg (M.1 54 x5.toNatClampNeg))) (P := True) 1 rfl trivial ?_
                    refine WX.if_eq (off := 7) (tgt := 229) rfl rfl (fun c30 => ?_) (fun c30 => ?_)
                    · refine WX.run (pc' := 91) (L' := [some (.ref 37), some (.int x1), some (.int x2), some (.int x3), some (.int 0), some (.int x5), some (.int (x6 + 1)), some (.int (z_M_beside_37 M x5 x6)), some (.int 1)]) (st' := []) (M' := (wr M 54 x5.toNatClampNeg (M.1 54 x5.toNatClampNeg))) (P := True) 4 rfl trivial ?_
                      refine WX.forget2 (L' := [some (.ref 37), some (.int x1), some (.int x2), some (.int x3), some (.int 0), some (.int x5), some (.int (x6 + 1)), none, none]) ?_ ⟨Or.inr rfl, Or.inr rfl, Or.inr rfl, Or.inr rfl, Or.inr rfl, Or.inr rfl, Or.inr rfl, Or.inl rfl, Or.inl rfl, trivial⟩
                      exact (h46 c1 c2 c3 c4 c10 c16 c22 c28 c29 c30)
                    · refine WX.run (pc' := 91) (L' := [some (.ref 37), some (.int x1), some (.int x2), some (.int x3), some (.int 1), some (.int x5), some (.int (x6 + 1)), some (.int (z_M_beside_37 M x5 x6)), some (.int 1)]) (st' := []) (M' := (wr M 54 x5.toNatClampNeg (M.1 54 x5.toNatClampNeg))) (P := True) 5 rfl trivial ?_
                      refine WX.forget2 (L' := [some (.ref 37), some (.int x1), some (.int x2), some (.int x3), some (.int 1), some (.int x5), some (.int (x6 + 1)), none, none]) ?_ ⟨Or.inr rfl, Or.inr rfl, Or.inr rfl, Or.inr rfl, Or.inr rfl, Or.inr rfl, Or.inr rfl, Or.inl rfl, Or.inl rfl, trivial⟩
                      exact (h47 c1 c2 c3 c4 c10 c16 c22 c28 c29 c30)
                · refine WX.run (pc' := 217) (L' := [some (.ref 37), some (.int x1), some (.int x2), some (.int x3), some (.int x4), some (.int x5), some (.int x6), some (.int (z_M_beside_37 M x5 x6)), some (.int 1)]) (st' := [.int x4]) (M' := (wr M 54 x5.toNatClampNeg ((M.1 54 (z_M_beside_37 M x5 x6).toNatClampNeg) + 1))) (P := ((True ∧ vp_in (z_M_beside_37 M x5 x6) 16) ∧ vp_in x5 16)) 9 rfl ⟨⟨trivial, (b48 c1 c2 c3 c4 c10 c16 c22 c28)⟩, (b49 c1 c2 c3 c4 c10 c16 c22 c28)⟩ ?_
                  refine WX.if_ne (off := 8) (tgt := 225) rfl rfl (fun c31 => ?_) (fun c31 => ?_)
                  · refine WX.run (pc' := 91) (L' := [some (.ref 37), some (.int x1), some (.int x2), some (.int x3), some (.int 1), some (.int x5), some (.int (x6 + 1)), some (.int (z_M_beside_37 M x5 x6)), some (.int 1)]) (st' := []) (M' := (wr M 54 x5.toNatClampNeg ((M.1 54 (z_M_beside_37 M x5 x6).toNatClampNeg) + 1))) (P := True) 5 rfl trivial ?_
                    refine WX.forget2 (L' := [some (.ref 37), some (.int x1), some (.int x2), some (.int x3), some (.int 1), some (.int x5), some (.int (x6 + 1)), none, none]) ?_ ⟨Or.inr rfl, Or.inr rfl, Or.inr rfl, Or.inr rfl, Or.inr rfl, Or.inr rfl, Or.inr rfl, Or.inl rfl, Or.inl rfl, trivial⟩
                    exact (h50 c1 c2 c3 c4 c10 c16 c22 c28 c31)
                  · refine WX.run (pc' := 222) (L' := [some (.ref 37), some (.int x1), some (.int x2), some (.int x3), some (.int x4), some (.int x5), some (.int x6), some (.int (z_M_beside_37 M x5 x6)), some (.int 1)]) (st' := [.int 1]) (M' := (wr M 54 x5.toNatClampNeg ((M.1 54 (z_M_beside_37 M x5 x6).toNatClampNeg) + 1))) (P := True) 1 rfl trivial ?_
                    refine WX.if_eq (off := 7) (tgt := 229) rfl rfl (fun c32 => ?_) (fun c32 => ?_)
                    · refine WX.run (pc' := 91) (L' := [some (.ref 37), some (.int x1), some (.int x2), some (.int x3), some (.int 0), some (.int x5), some (.int (x6 + 1)), some (.int (z_M_beside_37 M x5 x6)), some (.int 1)]) (st' := []) (M' := (wr M 54 x5.toNatClampNeg ((M.1 54 (z_M_beside_37 M x5 x6).toNatClampNeg) + 1))) (P := True) 4 rfl trivial ?_
                      refine WX.forget2 (L' := [some (.ref 37), some (.int x1), some (.int x2), some (.int x3), some (.int 0), some (.int x5), some (.int (x6 + 1)), none, none]) ?_ ⟨Or.inr rfl, Or.inr rfl, Or.inr rfl, Or.inr rfl, Or.inr rfl, Or.inr rfl, Or.inr rfl, Or.inl rfl, Or.inl rfl, trivial⟩
                      exact (h51 c1 c2 c3 c4 c10 c16 c22 c28 c31 c32)
                    · refine WX.run (pc' := 91) (L' := [some (.ref 37), some (.int x1), some (.int x2), some (.int x3), some (.int 1), some (.int x5), some (.int (x6 + 1)), some (.int (z_M_beside_37 M x5 x6)), some (.int 1)]) (st' := []) (M' := (wr M 54 x5.toNatClampNeg ((M.1 54 (z_M_beside_37 M x5 x6).toNatClampNeg) + 1))) (P := True) 5 rfl trivial ?_
                      refine WX.forget2 (L' := [some (.ref 37), some (.int x1), some (.int x2), some (.int x3), some (.int 1), some (.int x5), some (.int (x6 + 1)), none, none]) ?_ ⟨Or.inr rfl, Or.inr rfl, Or.inr rfl, Or.inr rfl, Or.inr rfl, Or.inr rfl, Or.inr rfl, Or.inl rfl, Or.inl rfl, trivial⟩
                      exact (h52 c1 c2 c3 c4 c10 c16 c22 c28 c31 c32)
      · refine WX.run (pc' := 118) (L' := [some (.ref 37), some (.int x1), some (.int x2), some (.int x3), some (.int x4), some (.int x5), some (.int x6), none, none]) (st' := [.int x3, .int x5]) (M' := M) (P := True) 2 rfl trivial ?_
        refine WX.icmp_ne (off := 120) (tgt := 238) rfl rfl (fun c33 => ?_) (fun c33 => ?_)
        · refine WX.run (pc' := 81) (L' := [some (.ref 37), some (.int x1), some (.int x2), some (.int x3), some (.int x4), some (.int (x5 + 1)), some (.int x6), none, none]) (st' := []) (M' := M) (P := True) 2 rfl trivial ?_
          refine WX.forget2 (L' := [some (.ref 37), some (.int x1), some (.int x2), some (.int x3), some (.int x4), some (.int (x5 + 1)), none, none, none]) ?_ ⟨Or.inr rfl, Or.inr rfl, Or.inr rfl, Or.inr rfl, Or.inr rfl, Or.inr rfl, Or.inl rfl, Or.inr rfl, Or.inr rfl, trivial⟩
          exact (h53 c1 c2 c3 c33)
        · refine WX.run (pc' := 126) (L' := [some (.ref 37), some (.int x1), some (.int x2), some (.int x3), some (.int x4), some (.int x5), some (.int x6), none, none]) (st' := [.int x6, .int x5, .ref 37]) (M' := M) (P := True) 3 rfl trivial ?_
          refine WX.callV (ca := mi_M_beside) (n := 2) (d' := 3) (st := []) (As := [.int x5, .int x6]) (q := 37) rfl lk_7_169 ck_M_beside cv_M_beside rfl (by decide) rfl (by decide) ⟨by decide, rfl, by decide⟩ (by intro w hw; simp only [List.mem_cons, List.not_mem_nil, or_false] at hw; rcases hw with rfl | rfl <;> rfl) (by decide) ?_
          refine wx_M_beside_37 M x5 x6 ?_
          show WX mi_M_barrow 6 Q 129 [some (.ref 37), some (.int x1), some (.int x2), some (.int x3), some (.int x4), some (.int x5), some (.int x6), none, none] [.int (z_M_beside_37 M x5 x6)] M
          refine WX.run (pc' := 135) (L' := [some (.ref 37), some (.int x1), some (.int x2), some (.int x3), some (.int x4), some (.int x5), some (.int x6), some (.int (z_M_beside_37 M x5 x6)), none]) (st' := [.int (-9), .int (z_M_beside_37 M x5 x6)]) (M' := M) (P := True) 3 rfl trivial ?_
          refine WX.icmp_eq (off := 46) (tgt := 181) rfl rfl (fun c34 => ?_) (fun c34 => ?_)
          · refine WX.run (pc' := 192) (L' := [some (.ref 37), some (.int x1), some (.int x2), some (.int x3), some (.int x4), some (.int x5), some (.int x6), some (.int (z_M_beside_37 M x5 x6)), some (.int 0)]) (st' := [.int 0, .int x5, .ref 54]) (M' := M) (P := True) 6 rfl trivial ?_
            refine WX.if_eq (off := 15) (tgt := 207) rfl rfl (fun c35 => ?_) (fun c35 => ?_)
            · refine WX.run (pc' := 217) (L' := [some (.ref 37), some (.int x1), some (.int x2), some (.int x3), some (.int x4), some (.int x5), some (.int x6), some (.int (z_M_beside_37 M x5 x6)), some (.int 0)]) (st' := [.int x4]) (M' := (wr M 54 x5.toNatClampNeg (M.1 54 x5.toNatClampNeg))) (P := ((True ∧ vp_in x5 16) ∧ vp_in x5 16)) 6 rfl ⟨⟨trivial, (b54 c1 c2 c3 c33 c34 c35)⟩, (b54 c1 c2 c3 c33 c34 c35)⟩ ?_
              refine WX.if_ne (off := 8) (tgt := 225) rfl rfl (fun c36 => ?_) (fun c36 => ?_)
              · refine WX.run (pc' := 91) (L' := [some (.ref 37), some (.int x1), some (.int x2), some (.int x3), some (.int 1), some (.int x5), some (.int (x6 + 1)), some (.int (z_M_beside_37 M x5 x6)), some (.int 0)]) (st' := []) (M' := (wr M 54 x5.toNatClampNeg (M.1 54 x5.toNatClampNeg))) (P := True) 5 rfl trivial ?_
                refine WX.forget2 (L' := [some (.ref 37), some (.int x1), some (.int x2), some (.int x3), some (.int 1), some (.int x5), some (.int (x6 + 1)), none, none]) ?_ ⟨Or.inr rfl, Or.inr rfl, Or.inr rfl, Or.inr rfl, Or.inr rfl, Or.inr rfl, Or.inr rfl, Or.inl rfl, Or.inl rfl, trivial⟩
                exact (h55 c1 c2 c3 c33 c34 c35 c36)
              · refine WX.run (pc' := 222) (L' := [some (.ref 37), some (.int x1), some (.int x2), some (.int x3), some (.int x4), some (.int x5), some (.int x6), some (.int (z_M_beside_37 M x5 x6)), some (.int 0)]) (st' := [.int 0]) (M' := (wr M 54 x5.toNatClampNeg (M.1 54 x5.toNatClampNeg))) (P := True) 1 rfl trivial ?_
                refine WX.if_eq (off := 7) (tgt := 229) rfl rfl (fun c37 => ?_) (fun c37 => ?_)
                · refine WX.run (pc' := 91) (L' := [some (.ref 37), some (.int x1), some (.int x2), some (.int x3), some (.int 0), some (.int x5), some (.int (x6 + 1)), some (.int (z_M_beside_37 M x5 x6)), some (.int 0)]) (st' := []) (M' := (wr M 54 x5.toNatClampNeg (M.1 54 x5.toNatClampNeg))) (P := True) 4 rfl trivial ?_
                  refine WX.forget2 (L' := [some (.ref 37), some (.int x1), some (.int x2), some (.int x3), some (.int 0), some (.int x5), some (.int (x6 + 1)), none, none]) ?_ ⟨Or.inr rfl, Or.inr rfl, Or.inr rfl, Or.inr rfl, Or.inr rfl, Or.inr rfl, Or.inr rfl, Or.inl rfl, Or.inl rfl, trivial⟩
                  exact (h56 c1 c2 c3 c33 c34 c35 c36 c37)
                · refine WX.run (pc' := 91) (L' := [some (.ref 37), some (.int x1), some (.int x2), some (.int x3), some (.int 1), some (.int x5), some (.int (x6 + 1)), some (.int (z_M_beside_37 M x5 x6)), some (.int 0)]) (st' := []) (M' := (wr M 54 x5.toNatClampNeg (M.1 54 x5.toNatClampNeg))) (P := True) 5 rfl trivial ?_
                  refine WX.forget2 (L' := [some (.ref 37), some (.int x1), some (.int x2), some (.int x3), some (.int 1), some (.int x5), some (.int (x6 + 1)), none, none]) ?_ ⟨Or.inr rfl, Or.inr rfl, Or.inr rfl, Or.inr rfl, Or.inr rfl, Or.inr rfl, Or.inr rfl, Or.inl rfl, Or.inl rfl, trivial⟩
                  exact (h57 c1 c2 c3 c33 c34 c35 c36 c37)
            · refine WX.run (pc' := 217) (L' := [some (.ref 37), some (.int x1), some (.int x2), some (.int x3), some (.int x4), some (.int x5), some (.int x6), some (.int (z_M_beside_37 M x5 x6)), some (.int 0)]) (st' := [.int x4]) (M' := (wr M 54 x5.toNatClampNeg ((M.1 54 (z_M_beside_37 M x5 x6).toNatClampNeg) + 1))) (P := ((True ∧ vp_in (z_M_beside_37 M x5 x6) 16) ∧ vp_in x5 16)) 9 rfl ⟨⟨trivial, (b58 c1 c2 c3 c33 c34 c35)⟩, (b59 c1 c2 c3 c33 c34 c35)⟩ ?_
              refine WX.if_ne (off := 8) (tgt := 225) rfl rfl (fun c38 => ?_) (fun c38 => ?_)
              · refine WX.run (pc' := 91) (L' := [some (.ref 37), some (.int x1), some (.int x2), some (.int x3), some (.int 1), some (.int x5), some (.int (x6 + 1)), some (.int (z_M_beside_37 M x5 x6)), some (.int 0)]) (st' := []) (M' := (wr M 54 x5.toNatClampNeg ((M.1 54 (z_M_beside_37 M x5 x6).toNatClampNeg) + 1))) (P := True) 5 rfl trivial ?_
                refine WX.forget2 (L' := [some (.ref 37), some (.int x1), some (.int x2), some (.int x3), some (.int 1), some (.int x5), some (.int (x6 + 1)), none, none]) ?_ ⟨Or.inr rfl, Or.inr rfl, Or.inr rfl, Or.inr rfl, Or.inr rfl, Or.inr rfl, Or.inr rfl, Or.inl rfl, Or.inl rfl, trivial⟩
                exact (h60 c1 c2 c3 c33 c34 c35 c38)
              · refine WX.run (pc' := 222) (L' := [some (.ref 37), some (.int x1), some (.int x2), some (.int x3), some (.int x4), some (.int x5), some (.int x6), some (.int (z_M_beside_37 M x5 x6)), some (.int 0)]) (st' := [.int 0]) (M' := (wr M 54 x5.toNatClampNeg ((M.1 54 (z_M_beside_37 M x5 x6).toNatClampNeg) + 1))) (P := True) 1 rfl trivial ?_
                refine WX.if_eq (off := 7) (tgt := 229) rfl rfl (fun c39 => ?_) (fun c39 => ?_)
                · refine WX.run (pc' := 91) (L' := [some (.ref 37), some (.int x1), some (.int x2), some (.int x3), some (.int 0), some (.int x5), some (.int (x6 + 1)), some (.int (z_M_beside_37 M x5 x6)), some (.int 0)]) (st' := []) (M' := (wr M 54 x5.toNatClampNeg ((M.1 54 (z_M_beside_37 M x5 x6).toNatClampNeg) + 1))) (P := True) 4 rfl trivial ?_
                  refine WX.forget2 (L' := [some (.ref 37), some (.int x1), some (.int x2), some (.int x3), some (.int 0), some (.int x5), some (.int (x6 + 1)), none, none]) ?_ ⟨Or.inr rfl, Or.inr rfl, Or.inr rfl, Or.inr rfl, Or.inr rfl, Or.inr rfl, Or.inr rfl, Or.inl rfl, Or.inl rfl, trivial⟩
                  exact (h61 c1 c2 c3 c33 c34 c35 c38 c39)
                · refine WX.run (pc' := 91) (L' := [some (.ref 37), some (.int x1), some (.int x2), some (.int x3), some (.int 1), some (.int x5), some (.int (x6 + 1)), some (.int (z_M_beside_37 M x5 x6)), some (.int 0)]) (st' := []) (M' := (wr M 54 x5.toNatClampNeg ((M.1 54 (z_M_beside_37 M x5 x6).toNatClampNeg) + 1))) (P := True) 5 rfl trivial ?_
                  refine WX.forget2 (L' := [some (.ref 37), some (.int x1), some (.int x2), some (.int x3), some (.int 1), some (.int x5), some (.int (x6 + 1)), none, none]) ?_ ⟨Or.inr rfl, Or.inr rfl, Or.inr rfl, Or.inr rfl, Or.inr rfl, Or.inr rfl, Or.inr rfl, Or.inl rfl, Or.inl rfl, trivial⟩
                  exact (h62 c1 c2 c3 c33 c34 c35 c38 c39)
          · refine WX.run (pc' := 146) (L' := [some (.ref 37), some (.int x1), some (.int x2), some (.int x3), some (.int x4), some (.int x5), some (.int x6), some (.int (z_M_beside_37 M x5 x6)), none]) (st' := [.int (M.1 43 0), .int x5]) (M' := M) (P := (True ∧ vp_in 0 2)) 5 rfl ⟨trivial, (vp_lit rfl)⟩ ?_
            refine WX.icmp_eq (off := 35) (tgt := 181) rfl rfl (fun c40 => ?_) (fun c40 => ?_)
            · refine WX.run (pc' := 192) (L' := [some (.ref 37), some (.int x1), some (.int x2), some (.int x3), some (.int x4), some (.int x5), some (.int x6), some (.int (z_M_beside_37 M x5 x6)), some (.int 0)]) (st' := [.int 0, .int x5, .ref 54]) (M' := M) (P := True) 6 rfl trivial ?_
              refine WX.if_eq (off := 15) (tgt := 207) rfl rfl (fun c41 => ?_) (fun c41 => ?_)
              · refine WX.run (pc' := 217) (L' := [some (.ref 37), some (.int x1), some (.int x2), some (.int x3), some (.int x4), some (.int x5), some (.int x6), some (.int (z_M_beside_37 M x5 x6)), some (.int 0)]) (st' := [.int x4]) (M' := (wr M 54 x5.toNatClampNeg (M.1 54 x5.toNatClampNeg))) (P := ((True ∧ vp_in x5 16) ∧ vp_in x5 16)) 6 rfl ⟨⟨trivial, (b63 c1 c2 c3 c33 c34 c40 c41)⟩, (b63 c1 c2 c3 c33 c34 c40 c41)⟩ ?_
                refine WX.if_ne (off := 8) (tgt := 225) rfl rfl (fun c42 => ?_) (fun c42 => ?_)
                · refine WX.run (pc' := 91) (L' := [some (.ref 37), some (.int x1), some (.int x2), some (.int x3), some (.int 1), some (.int x5), some (.int (x6 + 1)), some (.int (z_M_beside_37 M x5 x6)), some (.int 0)]) (st' := []) (M' := (wr M 54 x5.toNatClampNeg (M.1 54 x5.toNatClampNeg))) (P := True) 5 rfl trivial ?_
                  refine WX.forget2 (L' := [some (.ref 37), some (.int x1), some (.int x2), some (.int x3), some (.int 1), some (.int x5), some (.int (x6 + 1)), none, none]) ?_ ⟨Or.inr rfl, Or.inr rfl, Or.inr rfl, Or.inr rfl, Or.inr rfl, Or.inr rfl, Or.inr rfl, Or.inl rfl, Or.inl rfl, trivial⟩
                  exact (h64 c1 c2 c3 c33 c34 c40 c41 c42)
                · refine WX.run (pc' := 222) (L' := [some (.ref 37), some (.int x1), some (.int x2), some (.int x3), some (.int x4), some (.int x5), some (.int x6), some (.int (z_M_beside_37 M x5 x6)), some (.int 0)]) (st' := [.int 0]) (M' := (wr M 54 x5.toNatClampNeg (M.1 54 x5.toNatClampNeg))) (P := True) 1 rfl trivial ?_
                  refine WX.if_eq (off := 7) (tgt := 229) rfl rfl (fun c43 => ?_) (fun c43 => ?_)
                  · refine WX.run (pc' := 91) (L' := [some (.ref 37), some (.int x1), some (.int x2), some (.int x3), some (.int 0), some (.int x5), some (.int (x6 + 1)), some (.int (z_M_beside_37 M x5 x6)), some (.int 0)]) (st' := []) (M' := (wr M 54 x5.toNatClampNeg (M.1 54 x5.toNatClampNeg))) (P := True) 4 rfl trivial ?_
                    refine WX.forget2 (L' := [some (.ref 37), some (.int x1), some (.int x2), some (.int x3), some (.int 0), some (.int x5), some (.int (x6 + 1)), none, none]) ?_ ⟨Or.inr rfl, Or.inr rfl, Or.inr rfl, Or.inr rfl, Or.inr rfl, Or.inr rfl, Or.inr rfl, Or.inl rfl, Or.inl rfl, trivial⟩
                    exact (h65 c1 c2 c3 c33 c34 c40 c41 c42 c43)
                  · refine WX.run (pc' := 91) (L' := [some (.ref 37), some (.int x1), some (.int x2), some (.int x3), some (.int 1), some (.int x5), some (.int (x6 + 1)), some (.int (z_M_beside_37 M x5 x6)), some (.int 0)]) (st' := []) (M' := (wr M 54 x5.toNatClampNeg (M.1 54 x5.toNatClampNeg))) (P := True) 5 rfl trivial ?_
                    refine WX.forget2 (L' := [some (.ref 37), some (.int x1), some (.int x2), some (.int x3), some (.int 1), some (.int x5), some (.int (x6 + 1)), none, none]) ?_ ⟨Or.inr rfl, Or.inr rfl, Or.inr rfl, Or.inr rfl, Or.inr rfl, Or.inr rfl, Or.inr rfl, Or.inl rfl, Or.inl rfl, trivial⟩
                    exact (h66 c1 c2 c3 c33 c34 c40 c41 c42 c43)
              · refine WX.run (pc' := 217) (L' := [some (.ref 37), some (.int x1), some (.int x2), some (.int x3), some (.int x4), some (.int x5), some (.int x6), some (.int (z_M_beside_37 M x5 x6)), some (.int 0)]) (st' := [.int x4]) (M' := (wr M 54 x5.toNatClampNeg ((M.1 54 (z_M_beside_37 M x5 x6).toNatClampNeg) + 1))) (P := ((True ∧ vp_in (z_M_beside_37 M x5 x6) 16) ∧ vp_in x5 16)) 9 rfl ⟨⟨trivial, (b67 c1 c2 c3 c33 c34 c40 c41)⟩, (b68 c1 c2 c3 c33 c34 c40 c41)⟩ ?_
                refine WX.if_ne (off := 8) (tgt := 225) rfl rfl (fun c44 => ?_) (fun c44 => ?_)
                · refine WX.run (pc' := 91) (L' := [some (.ref 37), some (.int x1), some (.int x2), some (.int x3), some (.int 1), some (.int x5), some (.int (x6 + 1)), some (.int (z_M_beside_37 M x5 x6)), some (.int 0)]) (st' := []) (M' := (wr M 54 x5.toNatClampNeg ((M.1 54 (z_M_beside_37 M x5 x6).toNatClampNeg) + 1))) (P := True) 5 rfl trivial ?_
                  refine WX.forget2 (L' := [some (.ref 37), some (.int x1), some (.int x2), some (.int x3), some (.int 1), some (.int x5), some (.int (x6 + 1)), none, none]) ?_ ⟨Or.inr rfl, Or.inr rfl, Or.inr rfl, Or.inr rfl, Or.inr rfl, Or.inr rfl, Or.inr rfl, Or.inl rfl, Or.inl rfl, trivial⟩
                  exact (h69 c1 c2 c3 c33 c34 c40 c41 c44)
                · refine WX.run (pc' := 222) (L' := [some (.ref 37), some (.int x1), some (.int x2), some (.int x3), some (.int x4), some (.int x5), some (.int x6), some (.int (z_M_beside_37 M x5 x6)), some (.int 0)]) (st' := [.int 0]) (M' := (wr M 54 x5.toNatClampNeg ((M.1 54 (z_M_beside_37 M x5 x6).toNatClampNeg) + 1))) (P := True) 1 rfl trivial ?_
                  refine WX.if_eq (off := 7) (tgt := 229) rfl rfl (fun c45 => ?_) (fun c45 => ?_)
                  · refine WX.run (pc' := 91) (L' := [some (.ref 37), some (.int x1), some (.int x2), some (.int x3), some (.int 0), some (.int x5), some (.int (x6 + 1)), some (.int (z_M_beside_37 M x5 x6)), some (.int 0)]) (st' := []) (M' := (wr M 54 x5.toNatClampNeg ((M.1 54 (z_M_beside_37 M x5 x6).toNatClampNeg) + 1))) (P := True) 4 rfl trivial ?_
                    refine WX.forget2 (L' := [some (.ref 37), some (.int x1), some (.int x2), some (.int x3), some (.int 0), some (.int x5), some (.int (x6 + 1)), none, none]) ?_ ⟨Or.inr rfl, Or.inr rfl, Or.inr rfl, Or.inr rfl, Or.inr rfl, Or.inr rfl, Or.inr rfl, Or.inl rfl, Or.inl rfl, trivial⟩
                    exact (h70 c1 c2 c3 c33 c34 c40 c41 c44 c45)
                  · refine WX.run (pc' := 91) (L' := [some (.ref 37), some (.int x1), some (.int x2), some (.int x3), some (.int 1), some (.int x5), some (.int (x6 + 1)), some (.int (z_M_beside_37 M x5 x6)), some (.int 0)]) (st' := []) (M' := (wr M 54 x5.toNatClampNeg ((M.1 54 (z_M_beside_37 M x5 x6).toNatClampNeg) + 1))) (P := True) 5 rfl trivial ?_
                    refine WX.forget2 (L' := [some (.ref 37), some (.int x1), some (.int x2), some (.int x3), some (.int 1), some (.int x5), some (.int (x6 + 1)), none, none]) ?_ ⟨Or.inr rfl, Or.inr rfl, Or.inr rfl, Or.inr rfl, Or.inr rfl, Or.inr rfl, Or.inr rfl, Or.inl rfl, Or.inl rfl, trivial⟩
                    exact (h71 c1 c2 c3 c33 c34 c40 c41 c44 c45)
            · refine WX.run (pc' := 152) (L' := [some (.ref 37), some (.int x1), some (.int x2), some (.int x3), some (.int x4), some (.int x5), some (.int x6), some (.int (z_M_beside_37 M x5 x6)), none]) (st' := [.int (z_M_beside_37 M x5 x6), .ref 37]) (M' := M) (P := True) 2 rfl trivial ?_
              refine WX.callV (ca := mi_M_isFirm) (n := 1) (d' := 5) (st := []) (As := [.int (z_M_beside_37 M x5 x6)]) (q := 37) rfl lk_7_218 ck_M_isFirm cv_M_isFirm rfl (by decide) rfl (by decide) ⟨by decide, rfl, by decide⟩ (by intro w hw; simp only [List.mem_cons, List.not_mem_nil, or_false] at hw; rcases hw with rfl <;> rfl) (by decide) ?_
              refine wx_M_isFirm_37 M (z_M_beside_37 M x5 x6) (b72 c1 c2 c3 c33 c34 c40) ?_
              show WX mi_M_barrow 6 Q 155 [some (.ref 37), some (.int x1), some (.int x2), some (.int x3), some (.int x4), some (.int x5), some (.int x6), some (.int (z_M_beside_37 M x5 x6)), none] [.int (z_M_isFirm_37 M (z_M_beside_37 M x5 x6))] M
              refine WX.if_eq (off := 26) (tgt := 181) rfl rfl (fun c46 => ?_) (fun c46 => ?_)
              · refine WX.run (pc' := 192) (L' := [some (.ref 37), some (.int x1), some (.int x2), some (.int x3), some (.int x4), some (.int x5), some (.int x6), some (.int (z_M_beside_37 M x5 x6)), some (.int 0)]) (st' := [.int 0, .int x5, .ref 54]) (M' := M) (P := True) 6 rfl trivial ?_
                refine WX.if_eq (off := 15) (tgt := 207) rfl rfl (fun c47 => ?_) (fun c47 => ?_)
                · refine WX.run (pc' := 217) (L' := [some (.ref 37), some (.int x1), some (.int x2), some (.int x3), some (.int x4), some (.int x5), some (.int x6), some (.int (z_M_beside_37 M x5 x6)), some (.int 0)]) (st' := [.int x4]) (M' := (wr M 54 x5.toNatClampNeg (M.1 54 x5.toNatClampNeg))) (P := ((True ∧ vp_in x5 16) ∧ vp_in x5 16)) 6 rfl ⟨⟨trivial, (b73 c1 c2 c3 c33 c34 c40 c46 c47)⟩, (b73 c1 c2 c3 c33 c34 c40 c46 c47)⟩ ?_
                  refine WX.if_ne (off := 8) (tgt := 225) rfl rfl (fun c48 => ?_) (fun c48 => ?_)
                  · refine WX.run (pc' := 91) (L' := [some (.ref 37), some (.int x1), some (.int x2), some (.int x3), some (.int 1), some (.int x5), some (.int (x6 + 1)), some (.int (z_M_beside_37 M x5 x6)), some (.int 0)]) (st' := []) (M' := (wr M 54 x5.toNatClampNeg (M.1 54 x5.toNatClampNeg))) (P := True) 5 rfl trivial ?_
                    refine WX.forget2 (L' := [some (.ref 37), some (.int x1), some (.int x2), some (.int x3), some (.int 1), some (.int x5), some (.int (x6 + 1)), none, none]) ?_ ⟨Or.inr rfl, Or.inr rfl, Or.inr rfl, Or.inr rfl, Or.inr rfl, Or.inr rfl, Or.inr rfl, Or.inl rfl, Or.inl rfl, trivial⟩
                    exact (h74 c1 c2 c3 c33 c34 c40 c46 c47 c48)
                  · refine WX.run (pc' := 222) (L' := [some (.ref 37), some (.int x1), some (.int x2), some (.int x3), some (.int x4), some (.int x5), some (.int x6), some (.int (z_M_beside_37 M x5 x6)), some (.int 0)]) (st' := [.int 0]) (M' := (wr M 54 x5.toNatClampNeg (M.1 54 x5.toNatClampNeg))) (P := True) 1 rfl trivial ?_
                    refine WX.if_eq (off := 7) (tgt := 229) rfl rfl (fun c49 => ?_) (fun c49 => ?_)
                    · refine WX.run (pc' := 91) (L' := [some (.ref 37), some (.int x1), some (.int x2), some (.int x3), some (.int 0), some (.int x5), some (.int (x6 + 1)), some (.int (z_M_beside_37 M x5 x6)), some (.int 0)]) (st' := []) (M' := (wr M 54 x5.toNatClampNeg (M.1 54 x5.toNatClampNeg))) (P := True) 4 rfl trivial ?_
                      refine WX.forget2 (L' := [some (.ref 37), some (.int x1), some (.int x2), some (.int x3), some (.int 0), some (.int x5), some (.int (x6 + 1)), none, none]) ?_ ⟨Or.inr rfl, Or.inr rfl, Or.inr rfl, Or.inr rfl, Or.inr rfl, Or.inr rfl, Or.inr rfl, Or.inl rfl, Or.inl rfl, trivial⟩
                      exact (h75 c1 c2 c3 c33 c34 c40 c46 c47 c48 c49)
                    · refine WX.run (pc' := 91) (L' := [some (.ref 37), some (.int x1), some (.int x2), some (.int x3), some (.int 1), some (.int x5), some (.int (x6 + 1)), some (.int (z_M_beside_37 M x5 x6)), some (.int 0)]) (st' := []) (M' := (wr M 54 x5.toNatClampNeg (M.1 54 x5.toNatClampNeg))) (P := True) 5 rfl trivial ?_
                      refine WX.forget2 (L' := [some (.ref 37), some (.int x1), some (.int x2), some (.int x3), some (.int 1), some (.int x5), some (.int (x6 + 1)), none, none]) ?_ ⟨Or.inr rfl, Or.inr rfl, Or.inr rfl, Or.inr rfl, Or.inr rfl, Or.inr rfl, Or.inr rfl, Or.inl rfl, Or.inl rfl, trivial⟩
                      exact (h76 c1 c2 c3 c33 c34 c40 c46 c47 c48 c49)
                · refine WX.run (pc' := 217) (L' := [some (.ref 37), some (.int x1), some (.int x2), some (.int x3), some (.int x4), some (.int x5), some (.int x6), some (.int (z_M_beside_37 M x5 x6)), some (.int 0)]) (st' := [.int x4]) (M' := (wr M 54 x5.toNatClampNeg ((M.1 54 (z_M_beside_37 M x5 x6).toNatClampNeg) + 1))) (P := ((True ∧ vp_in (z_M_beside_37 M x5 x6) 16) ∧ vp_in x5 16)) 9 rfl ⟨⟨trivial, (b77 c1 c2 c3 c33 c34 c40 c46 c47)⟩, (b78 c1 c2 c3 c33 c34 c40 c46 c47)⟩ ?_
                  refine WX.if_ne (off := 8) (tgt := 225) rfl rfl (fun c50 => ?_) (fun c50 => ?_)
                  · refine WX.run (pc' := 91) (L' := [some (.ref 37), some (.int x1), some (.int x2), some (.int x3), some (.int 1), some (.int x5), some (.int (x6 + 1)), some (.int (z_M_beside_37 M x5 x6)), some (.int 0)]) (st' := []) (M' := (wr M 54 x5.toNatClampNeg ((M.1 54 (z_M_beside_37 M x5 x6).toNatClampNeg) + 1))) (P := True) 5 rfl trivial ?_
                    refine WX.forget2 (L' := [some (.ref 37), some (.int x1), some (.int x2), some (.int x3), some (.int 1), some (.int x5), some (.int (x6 + 1)), none, none]) ?_ ⟨Or.inr rfl, Or.inr rfl, Or.inr rfl, Or.inr rfl, Or.inr rfl, Or.inr rfl, Or.inr rfl, Or.inl rfl, Or.inl rfl, trivial⟩
                    exact (h79 c1 c2 c3 c33 c34 c40 c46 c47 c50)
                  · refine WX.run (pc' := 222) (L' := [some (.ref 37), some (.int x1), some (.int x2), some (.int x3), some (.int x4), some (.int x5), some (.int x6), some (.int (z_M_beside_37 M x5 x6)), some (.int 0)]) (st' := [.int 0]) (M' := (wr M 54 x5.toNatClampNeg ((M.1 54 (z_M_beside_37 M x5 x6).toNatClampNeg) + 1))) (P := True) 1 rfl trivial ?_
                    refine WX.if_eq (off := 7) (tgt := 229) rfl rfl (fun c51 => ?_) (fun c51 => ?_)
                    · refine WX.run (pc' := 91) (L' := [some (.ref 37), some (.int x1), some (.int x2), some (.int x3), some (.int 0), some (.int x5), some (.int (x6 + 1)), some (.int (z_M_beside_37 M x5 x6)), some (.int 0)]) (st' := []) (M' := (wr M 54 x5.toNatClampNeg ((M.1 54 (z_M_beside_37 M x5 x6).toNatClampNeg) + 1))) (P := True) 4 rfl trivial ?_
                      refine WX.forget2 (L' := [some (.ref 37), some (.int x1), some (.int x2), some (.int x3), some (.int 0), some (.int x5), some (.int (x6 + 1)), none, none]) ?_ ⟨Or.inr rfl, Or.inr rfl, Or.inr rfl, Or.inr rfl, Or.inr rfl, Or.inr rfl, Or.inr rfl, Or.inl rfl, Or.inl rfl, trivial⟩
                      exact (h80 c1 c2 c3 c33 c34 c40 c46 c47 c50 c51)
                    · refine WX.run (pc' := 91) (L' := [some (.ref 37), some (.int x1), some (.int x2), some (.int x3), some (.int 1), some (.int x5), some (.int (x6 + 1)), some (.int (z_M_beside_37 M x5 x6)), some (.int 0)]) (st' := []) (M' := (wr M 54 x5.toNatClampNeg ((M.1 54 (z_M_beside_37 M x5 x6).toNatClampNeg) + 1))) (P := True) 5 rfl trivial ?_
                      refine WX.forget2 (L' := [some (.ref 37), some (.int x1), some (.int x2), some (.int x3), some (.int 1), some (.int x5), some (.int (x6 + 1)), none, none]) ?_ ⟨Or.inr rfl, Or.inr rfl, Or.inr rfl, Or.inr rfl, Or.inr rfl, Or.inr rfl, Or.inr rfl, Or.inl rfl, Or.inl rfl, trivial⟩
                      exact (h81 c1 c2 c3 c33 c34 c40 c46 c47 c50 c51)
              · refine WX.run (pc' := 174) (L' := [some (.ref 37), some (.int x1), some (.int x2), some (.int x3), some (.int x4), some (.int x5), some (.int x6), some (.int (z_M_beside_37 M x5 x6)), none]) (st' := [.int (M.1 54 x5.toNatClampNeg), .int ((M.1 54 (z_M_beside_37 M x5 x6).toNatClampNeg) + 1)]) (M' := M) (P := ((True ∧ vp_in (z_M_beside_37 M x5 x6) 16) ∧ vp_in x5 16)) 10 rfl ⟨⟨trivial, (b82 c1 c2 c3 c33 c34 c40 c46)⟩, (b83 c1 c2 c3 c33 c34 c40 c46)⟩ ?_
                refine WX.icmp_ge (off := 7) (tgt := 181) rfl rfl (fun c52 => ?_) (fun c52 => ?_)
                · refine WX.run (pc' := 192) (L' := [some (.ref 37), some (.int x1), some (.int x2), some (.int x3), some (.int x4), some (.int x5), some (.int x6), some (.int (z_M_beside_37 M x5 x6)), some (.int 0)]) (st' := [.int 0, .int x5, .ref 54]) (M' := M) (P := True) 6 rfl trivial ?_
                  refine WX.if_eq (off := 15) (tgt := 207) rfl rfl (fun c53 => ?_) (fun c53 => ?_)
                  · refine WX.run (pc' := 217) (L' := [some (.ref 37), some (.int x1), some (.int x2), some (.int x3), some (.int x4), some (.int x5), some (.int x6), some (.int (z_M_beside_37 M x5 x6)), some (.int 0)]) (st' := [.int x4]) (M' := (wr M 54 x5.toNatClampNeg (M.1 54 x5.toNatClampNeg))) (P := ((True ∧ vp_in x5 16) ∧ vp_in x5 16)) 6 rfl ⟨⟨trivial, (b84 c1 c2 c3 c33 c34 c40 c46 c52 c53)⟩, (b84 c1 c2 c3 c33 c34 c40 c46 c52 c53)⟩ ?_
                    refine WX.if_ne (off := 8) (tgt := 225) rfl rfl (fun c54 => ?_) (fun c54 => ?_)
                    · refine WX.run (pc' := 91) (L' := [some (.ref 37), some (.int x1), some (.int x2), some (.int x3), some (.int 1), some (.int x5), some (.int (x6 + 1)), some (.int (z_M_beside_37 M x5 x6)), some (.int 0)]) (st' := []) (M' := (wr M 54 x5.toNatClampNeg (M.1 54 x5.toNatClampNeg))) (P := True) 5 rfl trivial ?_
                      refine WX.forget2 (L' := [some (.ref 37), some (.int x1), some (.int x2), some (.int x3), some (.int 1), some (.int x5), some (.int (x6 + 1)), none, none]) ?_ ⟨Or.inr rfl, Or.inr rfl, Or.inr rfl, Or.inr rfl, Or.inr rfl, Or.inr rfl, Or.inr rfl, Or.inl rfl, Or.inl rfl, trivial⟩
                      exact (h85 c1 c2 c3 c33 c34 c40 c46 c52 c53 c54)
                    · refine WX.run (pc' := 222) (L' := [some (.ref 37), some (.int x1), some (.int x2), some (.int x3), some (.int x4), some (.int x5), some (.int x6), some (.int (z_M_beside_37 M x5 x6)), some (.int 0)]) (st' := [.int 0]) (M' := (wr M 54 x5.toNatClampNeg (M.1 54 x5.toNatClampNeg))) (P := True) 1 rfl trivial ?_
                      refine WX.if_eq (off := 7) (tgt := 229) rfl rfl (fun c55 => ?_) (fun c55 => ?_)
                      · refine WX.run (pc' := 91) (L' := [some (.ref 37), some (.int x1), some (.int x2), some (.int x3), some (.int 0), some (.int x5), some (.int (x6 + 1)), some (.int (z_M_beside_37 M x5 x6)), some (.int 0)]) (st' := []) (M' := (wr M 54 x5.toNatClampNeg (M.1 54 x5.toNatClampNeg))) (P := True) 4 rfl trivial ?_
                        refine WX.forget2 (L' := [some (.ref 37), some (.int x1), some (.int x2), some (.int x3), some (.int 0), some (.int x5), some (.int (x6 + 1)), none, none]) ?_ ⟨Or.inr rfl, Or.inr rfl, Or.inr rfl, Or.inr rfl, Or.inr rfl, Or.inr rfl, Or.inr rfl, Or.inl rfl, Or.inl rfl, trivial⟩
                        exact (h86 c1 c2 c3 c33 c34 c40 c46 c52 c53 c54 c55)
                      · refine WX.run (pc' := 91) (L' := [some (.ref 37), some (.int x1), some (.int x2), some (.int x3), some (.int 1), some (.int x5), some (.int (x6 + 1)), some (.int (z_M_beside_37 M x5 x6)), some (.int 0)]) (st' := []) (M' := (wr M 54 x5.toNatClampNeg (M.1 54 x5.toNatClampNeg))) (P := True) 5 rfl trivial ?_
                        refine WX.forget2 (L' := [some (.ref 37), some (.int x1), some (.int x2), some (.int x3), some (.int 1), some (.int x5), some (.int (x6 + 1)), none, none]) ?_ ⟨Or.inr rfl, Or.inr rfl, Or.inr rfl, Or.inr rfl, Or.inr rfl, Or.inr rfl, Or.inr rfl, Or.inl rfl, Or.inl rfl, trivial⟩
                        exact (h87 c1 c2 c3 c33 c34 c40 c46 c52 c53 c54 c55)
                  · refine WX.run (pc' := 217) (L' := [some (.ref 37), some (.int x1), some (.int x2), some (.int x3), some (.int x4), some (.int x5), some (.int x6), some (.int (z_M_beside_37 M x5 x6)), some (.int 0)]) (st' := [.int x4]) (M' := (wr M 54 x5.toNatClampNeg ((M.1 54 (z_M_beside_37 M x5 x6).toNatClampNeg) + 1))) (P := ((True ∧ vp_in (z_M_beside_37 M x5 x6) 16) ∧ vp_in x5 16)) 9 rfl ⟨⟨trivial, (b88 c1 c2 c3 c33 c34 c40 c46 c52 c53)⟩, (b89 c1 c2 c3 c33 c34 c40 c46 c52 c53)⟩ ?_
                    refine WX.if_ne (off := 8) (tgt := 225) rfl rfl (fun c56 => ?_) (fun c56 => ?_)
                    · refine WX.run (pc' := 91) (L' := [some (.ref 37), some (.int x1), some (.int x2), some (.int x3), some (.int 1), some (.int x5), some (.int (x6 + 1)), some (.int (z_M_beside_37 M x5 x6)), some (.int 0)]) (st' := []) (M' := (wr M 54 x5.toNatClampNeg ((M.1 54 (z_M_beside_37 M x5 x6).toNatClampNeg) + 1))) (P := True) 5 rfl trivial ?_
                      refine WX.forget2 (L' := [some (.ref 37), some (.int x1), some (.int x2), some (.int x3), some (.int 1), some (.int x5), some (.int (x6 + 1)), none, none]) ?_ ⟨Or.inr rfl, Or.inr rfl, Or.inr rfl, Or.inr rfl, Or.inr rfl, Or.inr rfl, Or.inr rfl, Or.inl rfl, Or.inl rfl, trivial⟩
                      exact (h90 c1 c2 c3 c33 c34 c40 c46 c52 c53 c56)
                    · refine WX.run (pc' := 222) (L' := [some (.ref 37), some (.int x1), some (.int x2), some (.int x3), some (.int x4), some (.int x5), some (.int x6), some (.int (z_M_beside_37 M x5 x6)), some (.int 0)]) (st' := [.int 0]) (M' := (wr M 54 x5.toNatClampNeg ((M.1 54 (z_M_beside_37 M x5 x6).toNatClampNeg) + 1))) (P := True) 1 rfl trivial ?_
                      refine WX.if_eq (off := 7) (tgt := 229) rfl rfl (fun c57 => ?_) (fun c57 => ?_)
                      · refine WX.run (pc' := 91) (L' := [some (.ref 37), some (.int x1), some (.int x2), some (.int x3), some (.int 0), some (.int x5), some (.int (x6 + 1)), some (.int (z_M_beside_37 M x5 x6)), some (.int 0)]) (st' := []) (M' := (wr M 54 x5.toNatClampNeg ((M.1 54 (z_M_beside_37 M x5 x6).toNatClampNeg) + 1))) (P := True) 4 rfl trivial ?_
                        refine WX.forget2 (L' := [some (.ref 37), some (.int x1), some (.int x2), some (.int x3), some (.int 0), some (.int x5), some (.int (x6 + 1)), none, none]) ?_ ⟨Or.inr rfl, Or.inr rfl, Or.inr rfl, Or.inr rfl, Or.inr rfl, Or.inr rfl, Or.inr rfl, Or.inl rfl, Or.inl rfl, trivial⟩
                        exact (h91 c1 c2 c3 c33 c34 c40 c46 c52 c53 c56 c57)
                      · refine WX.run (pc' := 91) (L' := [some (.ref 37), some (.int x1), some (.int x2), some (.int x3), some (.int 1), some (.int x5), some (.int (x6 + 1)), some (.int (z_M_beside_37 M x5 x6)), some (.int 0)]) (st' := []) (M' := (wr M 54 x5.toNatClampNeg ((M.1 54 (z_M_beside_37 M x5 x6).toNatClampNeg) + 1))) (P := True) 5 rfl trivial ?_
                        refine WX.forget2 (L' := [some (.ref 37), some (.int x1), some (.int x2), some (.int x3), some (.int 1), some (.int x5), some (.int (x6 + 1)), none, none]) ?_ ⟨Or.inr rfl, Or.inr rfl, Or.inr rfl, Or.inr rfl, Or.inr rfl, Or.inr rfl, Or.inr rfl, Or.inl rfl, Or.inl rfl, trivial⟩
                        exact (h92 c1 c2 c3 c33 c34 c40 c46 c52 c53 c56 c57)
                · refine WX.run (pc' := 192) (L' := [some (.ref 37), some (.int x1), some (.int x2), some (.int x3), some (.int x4), some (.int x5), some (.int x6), some (.int (z_M_beside_37 M x5 x6)), some (.int 1)]) (st' := [.int 1, .int x5, .ref 54]) (M' := M) (P := True) 7 rfl trivial ?_
                  refine WX.if_eq (off := 15) (tgt := 207) rfl rfl (fun c58 => ?_) (fun c58 => ?_)
                  · refine WX.run (pc' := 217) (L' := [some (.ref 37), some (.int x1), some (.int x2), some (.int x3), some (.int x4), some (.int x5), some (.int x6), some (.int (z_M_beside_37 M x5 x6)), some (.int 1)]) (st' := [.int x4]) (M' := (wr M 54 x5.toNatClampNeg (M.1 54 x5.toNatClampNeg))) (P := ((True ∧ vp_in x5 16) ∧ vp_in x5 16)) 6 rfl ⟨⟨trivial, (b93 c1 c2 c3 c33 c34 c40 c46 c52 c58)⟩, (b93 c1 c2 c3 c33 c34 c40 c46 c52 c58)⟩ ?_
                    refine WX.if_ne (off := 8) (tgt := 225) rfl rfl (fun c59 => ?_) (fun c59 => ?_)
                    · refine WX.run (pc' := 91) (L' := [some (.ref 37), some (.int x1), some (.int x2), some (.int x3), some (.int 1), some (.int x5), some (.int (x6 + 1)), some (.int (z_M_beside_37 M x5 x6)), some (.int 1)]) (st' := []) (M' := (wr M 54 x5.toNatClampNeg (M.1 54 x5.toNatClampNeg))) (P := True) 5 rfl trivial ?_
                      refine WX.forget2 (L' := [some (.ref 37), some (.int x1), some (.int x2), some (.int x3), some (.int 1), some (.int x5), some (.int (x6 + 1)), none, none]) ?_ ⟨Or.inr rfl, Or.inr rfl, Or.inr rfl, Or.inr rfl, Or.inr rfl, Or.inr rfl, Or.inr rfl, Or.inl rfl, Or.inl rfl, trivial⟩
                      exact (h94 c1 c2 c3 c33 c34 c40 c46 c52 c58 c59)
                    · refine WX.run (pc' := 222) (L' := [some (.ref 37), some (.int x1), some (.int x2), some (.int x3), some (.int x4), some (.int x5), some (.int x6), some (.int (z_M_beside_37 M x5 x6)), some (.int 1)]) (st' := [.int 1]) (M' := (wr M 54 x5.toNatClampNeg (M.1 54 x5.toNatClampNeg))) (P := True) 1 rfl trivial ?_
                      refine WX.if_eq (off := 7) (tgt := 229) rfl rfl (fun c60 => ?_) (fun c60 => ?_)
                      · refine WX.run (pc' := 91) (L' := [some (.ref 37), some (.int x1), some (.int x2), some (.int x3), some (.int 0), some (.int x5), some (.int (x6 + 1)), some (.int (z_M_beside_37 M x5 x6)), some (.int 1)]) (st' := []) (M' := (wr M 54 x5.toNatClampNeg (M.1 54 x5.toNatClampNeg))) (P := True) 4 rfl trivial ?_
                        refine WX.forget2 (L' := [some (.ref 37), some (.int x1), some (.int x2), some (.int x3), some (.int 0), some (.int x5), some (.int (x6 + 1)), none, none]) ?_ ⟨Or.inr rfl, Or.inr rfl, Or.inr rfl, Or.inr rfl, Or.inr rfl, Or.inr rfl, Or.inr rfl, Or.inl rfl, Or.inl rfl, trivial⟩
                        exact (h95 c1 c2 c3 c33 c34 c40 c46 c52 c58 c59 c60)
                      · refine WX.run (pc' := 91) (L' := [some (.ref 37), some (.int x1), some (.int x2), some (.int x3), some (.int 1), some (.int x5), some (.int (x6 + 1)), some (.int (z_M_beside_37 M x5 x6)), some (.int 1)]) (st' := []) (M' := (wr M 54 x5.toNatClampNeg (M.1 54 x5.toNatClampNeg))) (P := True) 5 rfl trivial ?_
                        refine WX.forget2 (L' := [some (.ref 37), some (.int x1), some (.int x2), some (.int x3), some (.int 1), some (.int x5), some (.int (x6 + 1)), none, none]) ?_ ⟨Or.inr rfl, Or.inr rfl, Or.inr rfl, Or.inr rfl, Or.inr rfl, Or.inr rfl, Or.inr rfl, Or.inl rfl, Or.inl rfl, trivial⟩
                        exact (h96 c1 c2 c3 c33 c34 c40 c46 c52 c58 c59 c60)
                  · refine WX.run (pc' := 217) (L' := [some (.ref 37), some (.int x1), some (.int x2), some (.int x3), some (.int x4), some (.int x5), some (.int x6), some (.int (z_M_beside_37 M x5 x6)), some (.int 1)]) (st' := [.int x4]) (M' := (wr M 54 x5.toNatClampNeg ((M.1 54 (z_M_beside_37 M x5 x6).toNatClampNeg) + 1))) (P := ((True ∧ vp_in (z_M_beside_37 M x5 x6) 16) ∧ vp_in x5 16)) 9 rfl ⟨⟨trivial, (b97 c1 c2 c3 c33 c34 c40 c46 c52 c58)⟩, (b98 c1 c2 c3 c33 c34 c40 c46 c52 c58)⟩ ?_
                    refine WX.if_ne (off := 8) (tgt := 225) rfl rfl (fun c61 => ?_) (fun c61 => ?_)
                    · refine WX.run (pc' := 91) (L' := [some (.ref 37), some (.int x1), some (.int x2), some (.int x3), some (.int 1), some (.int x5), some (.int (x6 + 1)), some (.int (z_M_beside_37 M x5 x6)), some (.int 1)]) (st' := []) (M' := (wr M 54 x5.toNatClampNeg ((M.1 54 (z_M_beside_37 M x5 x6).toNatClampNeg) + 1))) (P := True) 5 rfl trivial ?_
                      refine WX.forget2 (L' := [some (.ref 37), some (.int x1), some (.int x2), some (.int x3), some (.int 1), some (.int x5), some (.int (x6 + 1)), none, none]) ?_ ⟨Or.inr rfl, Or.inr rfl, Or.inr rfl, Or.inr rfl, Or.inr rfl, Or.inr rfl, Or.inr rfl, Or.inl rfl, Or.inl rfl, trivial⟩
                      exact (h99 c1 c2 c3 c33 c34 c40 c46 c52 c58 c61)
                    · refine WX.run (pc' := 222) (L' := [some (.ref 37), some (.int x1), some (.int x2), some (.int x3), some (.int x4), some (.int x5), some (.int x6), some (.int (z_M_beside_37 M x5 x6)), some (.int 1)]) (st' := [.int 1]) (M' := (wr M 54 x5.toNatClampNeg ((M.1 54 (z_M_beside_37 M x5 x6).toNatClampNeg) + 1))) (P := True) 1 rfl trivial ?_
                      refine WX.if_eq (off := 7) (tgt := 229) rfl rfl (fun c62 => ?_) (fun c62 => ?_)
                      · refine WX.run (pc' := 91) (L' := [some (.ref 37), some (.int x1), some (.int x2), some (.int x3), some (.int 0), some (.int x5), some (.int (x6 + 1)), some (.int (z_M_beside_37 M x5 x6)), some (.int 1)]) (st' := []) (M' := (wr M 54 x5.toNatClampNeg ((M.1 54 (z_M_beside_37 M x5 x6).toNatClampNeg) + 1))) (P := True) 4 rfl trivial ?_
                        refine WX.forget2 (L' := [some (.ref 37), some (.int x1), some (.int x2), some (.int x3), some (.int 0), some (.int x5), some (.int (x6 + 1)), none, none]) ?_ ⟨Or.inr rfl, Or.inr rfl, Or.inr rfl, Or.inr rfl, Or.inr rfl, Or.inr rfl, Or.inr rfl, Or.inl rfl, Or.inl rfl, trivial⟩
                        exact (h100 c1 c2 c3 c33 c34 c40 c46 c52 c58 c61 c62)
                      · refine WX.run (pc' := 91) (L' := [some (.ref 37), some (.int x1), some (.int x2), some (.int x3), some (.int 1), some (.int x5), some (.int (x6 + 1)), some (.int (z_M_beside_37 M x5 x6)), some (.int 1)]) (st' := []) (M' := (wr M 54 x5.toNatClampNeg ((M.1 54 (z_M_beside_37 M x5 x6).toNatClampNeg) + 1))) (P := True) 5 rfl trivial ?_
                        refine WX.forget2 (L' := [some (.ref 37), some (.int x1), some (.int x2), some (.int x3), some (.int 1), some (.int x5), some (.int (x6 + 1)), none, none]) ?_ ⟨Or.inr rfl, Or.inr rfl, Or.inr rfl, Or.inr rfl, Or.inr rfl, Or.inr rfl, Or.inr rfl, Or.inl rfl, Or.inl rfl, trivial⟩
                        exact (h101 c1 c2 c3 c33 c34 c40 c46 c52 c58 c61 c62)
