/-! ===== printed by wip/gen/gen08.py: the stretches of the methods ===== -/
theorem sg_M_feeds_37_0 {Q : Option Value → Mem → Prop} (M : Mem) (x1 x2 : Int32)
    (h1 : ¬ (z_M_isDryAt_37 M x1 x2) = 0 → WX mi_M_feeds 6 Q 16 [some (.ref 37), some (.int x1), some (.int x2), some (.int 0), some (.int 0)] [] M)
    (h2 : (z_M_isDryAt_37 M x1 x2) = 0 → Q (some (.int (-1))) M) :
    WX mi_M_feeds 6 Q 0 [some (.ref 37), some (.int x1), some (.int x2), none, none] [] M := by
  refine WX.run (pc' := 3) (L' := [some (.ref 37), some (.int x1), some (.int x2), none, none]) (st' := [.int x2, .int x1, .ref 37]) (M' := M) (P := True) 3 rfl trivial ?_
  refine WX.callV (ca := mi_M_isDryAt) (n := 2) (d' := 3) (st := []) (As := [.int x1, .int x2]) (q := 37) rfl lk_7_200 ck_M_isDryAt cv_M_isDryAt rfl (by decide) rfl (Nat.le_of_ble_eq_true rfl) ⟨by decide, rfl, by decide⟩ (by intro w hw; simp only [List.mem_cons, List.not_mem_nil, or_false] at hw; rcases hw with rfl | rfl <;> rfl) (Nat.le_of_ble_eq_true rfl) ?_
  refine wx_M_isDryAt_37 M x1 x2 ?_
  show WX mi_M_feeds 6 Q 6 [some (.ref 37), some (.int x1), some (.int x2), none, none] [.int (z_M_isDryAt_37 M x1 x2)] M
  refine WX.if_ne (off := 5) (tgt := 11) rfl rfl (fun c1 => ?_) (fun c1 => ?_)
  · refine WX.run (pc' := 16) (L' := [some (.ref 37), some (.int x1), some (.int x2), some (.int 0), some (.int 0)]) (st' := []) (M' := M) (P := True) 4 rfl trivial ?_
    exact (h1 c1)
  · refine WX.run (pc' := 10) (L' := [some (.ref 37), some (.int x1), some (.int x2), none, none]) (st' := [.int (-1)]) (M' := M) (P := True) 1 rfl trivial ?_
    exact WX.iret rfl rfl (h2 c1)
theorem sg_M_feeds_37_16 {Q : Option Value → Mem → Prop} (M : Mem) (x1 x2 x3 x4 : Int32)
    (h1 : 16 ≤ x4 → Q (some (.int x3)) M)
    (b2 : ¬ 16 ≤ x4 → ((z_M_isCell_37 M (rem x4 4) (x4 / 4)) = 0 ∨ (z_M_isCell_37 M (rem x4 4) (x4 / 4)) = 1))
    (h3 : ¬ 16 ≤ x4 → (z_M_isDry_37 M x4) = 0 → WX mi_M_feeds 6 Q 16 [some (.ref 37), some (.int x1), some (.int x2), some (.int (x3 ||| 0)), some (.int (x4 + 1))] [] M)
    (h4 : ¬ 16 ≤ x4 → ¬ (z_M_isDry_37 M x4) = 0 → WX mi_M_endOf 5 (fun rv M' => WX mi_M_feeds 6 Q 43 [some (.ref 37), some (.int x1), some (.int x2), some (.int x3), some (.int x4)] (rv.toList ++ [.int x3]) M') 0 [some (.ref 37), some (.ref 46), some (.int x4), none, none] [] M) :
    WX mi_M_feeds 6 Q 16 [some (.ref 37), some (.int x1), some (.int x2), some (.int x3), some (.int x4)] [] M := by
  refine WX.run (pc' := 20) (L' := [some (.ref 37), some (.int x1), some (.int x2), some (.int x3), some (.int x4)]) (st' := [.int 16, .int x4]) (M' := M) (P := True) 2 rfl trivial ?_
  refine WX.icmp_ge (off := 47) (tgt := 67) rfl rfl (fun c1 => ?_) (fun c1 => ?_)
  · refine WX.run (pc' := 68) (L' := [some (.ref 37), some (.int x1), some (.int x2), some (.int x3), some (.int x4)]) (st' := [.int x3]) (M' := M) (P := True) 1 rfl trivial ?_
    exact WX.iret rfl rfl (h1 c1)
  · refine WX.run (pc' := 27) (L' := [some (.ref 37), some (.int x1), some (.int x2), some (.int x3), some (.int x4)]) (st' := [.int x4, .ref 37, .int x3]) (M' := M) (P := True) 3 rfl trivial ?_
    refine WX.callV (ca := mi_M_isDry) (n := 1) (d' := 4) (st := [.int x3]) (As := [.int x4]) (q := 37) rfl lk_7_184 ck_M_isDry cv_M_isDry rfl (by decide) rfl (Nat.le_of_ble_eq_true rfl) ⟨by decide, rfl, by decide⟩ (by intro w hw; simp only [List.mem_cons, List.not_mem_nil, or_false] at hw; rcases hw with rfl <;> rfl) (Nat.le_of_ble_eq_true rfl) ?_
    refine wx_M_isDry_37 M x4 (b2 c1) ?_
    show WX mi_M_feeds 6 Q 30 [some (.ref 37), some (.int x1), some (.int x2), some (.int x3), some (.int x4)] [.int (z_M_isDry_37 M x4), .int x3] M
    refine WX.if_eq (off := 28) (tgt := 58) rfl rfl (fun c2 => ?_) (fun c2 => ?_)
    · refine WX.run (pc' := 16) (L' := [some (.ref 37), some (.int x1), some (.int x2), some (.int (x3 ||| 0)), some (.int (x4 + 1))]) (st' := []) (M' := M) (P := True) 5 rfl trivial ?_
      exact (h3 c1 c2)
    · refine WX.run (pc' := 40) (L' := [some (.ref 37), some (.int x1), some (.int x2), some (.int x3), some (.int x4)]) (st' := [.int x4, .ref 46, .ref 37, .int x3]) (M' := M) (P := True) 4 rfl trivial ?_
      refine WX.callV (ca := mi_M_endOf) (n := 2) (d' := 5) (st := [.int x3]) (As := [.ref 46, .int x4]) (q := 37) rfl lk_7_203 ck_M_endOf cv_M_endOf rfl (by decide) rfl (Nat.le_of_ble_eq_true rfl) ⟨by decide, rfl, by decide⟩ (by intro w hw; simp only [List.mem_cons, List.not_mem_nil, or_false] at hw; rcases hw with rfl | rfl <;> rfl) (Nat.le_of_ble_eq_true rfl) ?_
      exact (h4 c1 c2)
theorem sg_M_feeds_37_43 {Q : Option Value → Mem → Prop} (M : Mem) (x1 x2 x3 x4 r s1 : Int32)
    (h1 : ¬ r = ((4 * x2) + x1) → WX mi_M_feeds 6 Q 16 [some (.ref 37), some (.int x1), some (.int x2), some (.int (s1 ||| 0)), some (.int (x4 + 1))] [] M)
    (h2 : r = ((4 * x2) + x1) → WX mi_M_feeds 6 Q 16 [some (.ref 37), some (.int x1), some (.int x2), some (.int (s1 ||| (shl 1 x4))), some (.int (x4 + 1))] [] M) :
    WX mi_M_feeds 6 Q 43 [some (.ref 37), some (.int x1), some (.int x2), some (.int x3), some (.int x4)] [.int r, .int s1] M := by
  refine WX.run (pc' := 48) (L' := [some (.ref 37), some (.int x1), some (.int x2), some (.int x3), some (.int x4)]) (st' := [.int ((4 * x2) + x1), .int r, .int s1]) (M' := M) (P := True) 5 rfl trivial ?_
  refine WX.icmp_ne (off := 10) (tgt := 58) rfl rfl (fun c1 => ?_) (fun c1 => ?_)
  · refine WX.run (pc' := 16) (L' := [some (.ref 37), some (.int x1), some (.int x2), some (.int (s1 ||| 0)), some (.int (x4 + 1))]) (st' := []) (M' := M) (P := True) 5 rfl trivial ?_
    exact (h1 c1)
  · refine WX.run (pc' := 16) (L' := [some (.ref 37), some (.int x1), some (.int x2), some (.int (s1 ||| (shl 1 x4))), some (.int (x4 + 1))]) (st' := []) (M' := M) (P := True) 8 rfl trivial ?_
    exact (h2 c1)
theorem sg_M_mend_37_0 {Q : Option Value → Mem → Prop} (M : Mem) (x1 : Int32)
    (h1 : ¬ (z_M_in x1 0 2) = 0 → WX mi_M_puddles 5 (fun rv M' => WX mi_M_mend 6 Q 19 [some (.ref 37), some (.int x1), none, none, none, none, none, none, none, none] (rv.toList ++ []) M') 0 [some (.ref 37), some (.ref 46), none, none] [] M)
    (h2 : (z_M_in x1 0 2) = 0 → Q (some (.int (-1))) M) :
    WX mi_M_mend 6 Q 0 [some (.ref 37), some (.int x1), none, none, none, none, none, none, none, none] [] M := by
  refine WX.run (pc' := 3) (L' := [some (.ref 37), some (.int x1), none, none, none, none, none, none, none, none]) (st' := [.int 2, .int 0, .int x1]) (M' := M) (P := True) 3 rfl trivial ?_
  refine WX.callS (ca := mi_M_in) (n := 3) (d' := 1) (st := []) (As := [.int x1, .int 0, .int 2]) rfl lk_7_72 ck_M_in cs_M_in rfl (by decide) rfl (Nat.le_of_ble_eq_true rfl) (by intro w hw; simp only [List.mem_cons, List.not_mem_nil, or_false] at hw; rcases hw with rfl | rfl | rfl <;> rfl) (Nat.le_of_ble_eq_true rfl) ?_
  refine wx_M_in M x1 0 2 ?_
  show WX mi_M_mend 6 Q 6 [some (.ref 37), some (.int x1), none, none, none, none, none, none, none, none] [.int (z_M_in x1 0 2)] M
  refine WX.if_ne (off := 5) (tgt := 11) rfl rfl (fun c1 => ?_) (fun c1 => ?_)
  · refine WX.run (pc' := 16) (L' := [some (.ref 37), some (.int x1), none, none, none, none, none, none, none, none]) (st' := [.ref 46, .ref 37]) (M' := M) (P := True) 3 rfl trivial ?_
    refine WX.callV (ca := mi_M_puddles) (n := 1) (d' := 5) (st := []) (As := [.ref 46]) (q := 37) rfl lk_7_187 ck_M_puddles cv_M_puddles rfl (by decide) rfl (Nat.le_of_ble_eq_true rfl) ⟨by decide, rfl, by decide⟩ (by intro w hw; simp only [List.mem_cons, List.not_mem_nil, or_false] at hw; rcases hw with rfl <;> rfl) (Nat.le_of_ble_eq_true rfl) ?_
    exact (h1 c1)
  · refine WX.run (pc' := 10) (L' := [some (.ref 37), some (.int x1), none, none, none, none, none, none, none, none]) (st' := [.int (-1)]) (M' := M) (P := True) 1 rfl trivial ?_
    exact WX.iret rfl rfl (h2 c1)
theorem sg_M_mend_37_19 {Q : Option Value → Mem → Prop} (M : Mem) (x1 r : Int32)
    (h1 : WX mi_M_manyOf 1 (fun rv M' => WX mi_M_mend 6 Q 22 [some (.ref 37), some (.int x1), none, none, none, none, none, none, none, none] (rv.toList ++ []) M') 0 [some (.int r), none, none] [] M) :
    WX mi_M_mend 6 Q 19 [some (.ref 37), some (.int x1), none, none, none, none, none, none, none, none] [.int r] M := by
  refine WX.callS (ca := mi_M_manyOf) (n := 1) (d' := 1) (st := []) (As := [.int r]) rfl lk_7_206 ck_M_manyOf cs_M_manyOf rfl (by decide) rfl (Nat.le_of_ble_eq_true rfl) (by intro w hw; simp only [List.mem_cons, List.not_mem_nil, or_false] at hw; rcases hw with rfl <;> rfl) (Nat.le_of_ble_eq_true rfl) ?_
  exact h1
theorem sg_M_mend_37_22 {Q : Option Value → Mem → Prop} (M : Mem) (x1 r : Int32)
    (h1 : WX mi_M_mend 6 Q 35 [some (.ref 37), some (.int x1), some (.int r), some (.int (-9)), some (.int 0), some (.int 0), some (.int 0), none, none, none] [] M) :
    WX mi_M_mend 6 Q 22 [some (.ref 37), some (.int x1), none, none, none, none, none, none, none, none] [.int r] M := by
  refine WX.run (pc' := 35) (L' := [some (.ref 37), some (.int x1), some (.int r), some (.int (-9)), some (.int 0), some (.int 0), some (.int 0), none, none, none]) (st' := []) (M' := M) (P := True) 9 rfl trivial ?_
  exact h1
theorem sg_M_mend_37_35 {Q : Option Value → Mem → Prop} (M : Mem) (x1 x2 x3 x4 x5 x6 : Int32)
    (h1 : 16 ≤ x6 → WX mi_M_mend 6 Q 65 [some (.ref 37), some (.int x1), some (.int x2), some (.int x3), some (.int x4), some (.int x5), some (.int 0), none, none, none] [] M)
    (b2 : ¬ 16 ≤ x6 → vp_in x6 1257)
    (b3 : ¬ 16 ≤ x6 → vp_in x6 16)
    (h4 : ¬ 16 ≤ x6 → WX mi_M_mend 6 Q 35 [some (.ref 37), some (.int x1), some (.int x2), some (.int x3), some (.int x4), some (.int x5), some (.int (x6 + 1)), none, none, none] [] (wr M 48 x6.toNatClampNeg (M.1 46 x6.toNatClampNeg))) :
    WX mi_M_mend 6 Q 35 [some (.ref 37), some (.int x1), some (.int x2), some (.int x3), some (.int x4), some (.int x5), some (.int x6), none, none, none] [] M := by
  refine WX.run (pc' := 39) (L' := [some (.ref 37), some (.int x1), some (.int x2), some (.int x3), some (.int x4), some (.int x5), some (.int x6), none, none, none]) (st' := [.int 16, .int x6]) (M' := M) (P := True) 2 rfl trivial ?_
  refine WX.icmp_ge (off := 23) (tgt := 62) rfl rfl (fun c1 => ?_) (fun c1 => ?_)
  · refine WX.run (pc' := 65) (L' := [some (.ref 37), some (.int x1), some (.int x2), some (.int x3), some (.int x4), some (.int x5), some (.int 0), none, none, none]) (st' := []) (M' := M) (P := True) 2 rfl trivial ?_
    exact (h1 c1)
  · refine WX.run (pc' := 35) (L' := [some (.ref 37), some (.int x1), some (.int x2), some (.int x3), some (.int x4), some (.int x5), some (.int (x6 + 1)), none, none, none]) (st' := []) (M' := (wr M 48 x6.toNatClampNeg (M.1 46 x6.toNatClampNeg))) (P := ((True ∧ vp_in x6 1257) ∧ vp_in x6 16)) 10 rfl ⟨⟨trivial, (b2 c1)⟩, (b3 c1)⟩ ?_
    exact (h4 c1)
theorem sg_M_mend_37_65 {Q : Option Value → Mem → Prop} (M : Mem) (x1 x2 x3 x4 x5 x6 : Int32)
    (h1 : 16 ≤ x6 → x3 = (-9) → Q (some (.int x3)) M)
    (h2 : 16 ≤ x6 → ¬ x3 = (-9) → ¬ x1 = 0 → ¬ x1 = 1 → Q (some (.int x2)) M)
    (h3 : 16 ≤ x6 → ¬ x3 = (-9) → ¬ x1 = 0 → x1 = 1 → Q (some (.int x4)) M)
    (h4 : 16 ≤ x6 → ¬ x3 = (-9) → x1 = 0 → Q (some (.int x3)) M)
    (h5 : ¬ 16 ≤ x6 → WX mi_M_mend 6 Q 75 [some (.ref 37), some (.int x1), some (.int x2), some (.int x3), some (.int x4), some (.int x5), some (.int x6), some (.int 0), none, none] [] M) :
    WX mi_M_mend 6 Q 65 [some (.ref 37), some (.int x1), some (.int x2), some (.int x3), some (.int x4), some (.int x5), some (.int x6), none, none, none] [] M := by
  refine WX.run (pc' := 69) (L' := [some (.ref 37), some (.int x1), some (.int x2), some (.int x3), some (.int x4), some (.int x5), some (.int x6), none, none, none]) (st' := [.int 16, .int x6]) (M' := M) (P := True) 2 rfl trivial ?_
  refine WX.icmp_ge (off := 155) (tgt := 224) rfl rfl (fun c1 => ?_) (fun c1 => ?_)
  · refine WX.run (pc' := 227) (L' := [some (.ref 37), some (.int x1), some (.int x2), some (.int x3), some (.int x4), some (.int x5), some (.int x6), none, none, none]) (st' := [.int (-9), .int x3]) (M' := M) (P := True) 2 rfl trivial ?_
    refine WX.icmp_eq (off := 7) (tgt := 234) rfl rfl (fun c2 => ?_) (fun c2 => ?_)
    · refine WX.run (pc' := 249) (L' := [some (.ref 37), some (.int x1), some (.int x2), some (.int x3), some (.int x4), some (.int x5), some (.int x6), none, none, none]) (st' := [.int x3]) (M' := M) (P := True) 2 rfl trivial ?_
      exact WX.iret rfl rfl (h1 c1 c2)
    · refine WX.run (pc' := 231) (L' := [some (.ref 37), some (.int x1), some (.int x2), some (.int x3), some (.int x4), some (.int x5), some (.int x6), none, none, none]) (st' := [.int x1]) (M' := M) (P := True) 1 rfl trivial ?_
      refine WX.if_ne (off := 7) (tgt := 238) rfl rfl (fun c3 => ?_) (fun c3 => ?_)
      · refine WX.run (pc' := 240) (L' := [some (.ref 37), some (.int x1), some (.int x2), some (.int x3), some (.int x4), some (.int x5), some (.int x6), none, none, none]) (st' := [.int 1, .int x1]) (M' := M) (P := True) 2 rfl trivial ?_
        refine WX.icmp_ne (off := 8) (tgt := 248) rfl rfl (fun c4 => ?_) (fun c4 => ?_)
        · refine WX.run (pc' := 249) (L' := [some (.ref 37), some (.int x1), some (.int x2), some (.int x3), some (.int x4), some (.int x5), some (.int x6), none, none, none]) (st' := [.int x2]) (M' := M) (P := True) 1 rfl trivial ?_
          exact WX.iret rfl rfl (h2 c1 c2 c3 c4)
        · refine WX.run (pc' := 249) (L' := [some (.ref 37), some (.int x1), some (.int x2), some (.int x3), some (.int x4), some (.int x5), some (.int x6), none, none, none]) (st' := [.int x4]) (M' := M) (P := True) 2 rfl trivial ?_
          exact WX.iret rfl rfl (h3 c1 c2 c3 c4)
      · refine WX.run (pc' := 249) (L' := [some (.ref 37), some (.int x1), some (.int x2), some (.int x3), some (.int x4), some (.int x5), some (.int x6), none, none, none]) (st' := [.int x3]) (M' := M) (P := True) 2 rfl trivial ?_
        exact WX.iret rfl rfl (h4 c1 c2 c3)
  · refine WX.run (pc' := 75) (L' := [some (.ref 37), some (.int x1), some (.int x2), some (.int x3), some (.int x4), some (.int x5), some (.int x6), some (.int 0), none, none]) (st' := []) (M' := M) (P := True) 2 rfl trivial ?_
    exact (h5 c1)
theorem sg_M_mend_37_75 {Q : Option Value → Mem → Prop} (M : Mem) (x1 x2 x3 x4 x5 x6 x7 : Int32)
    (b1 : 9 < x7 → vp_in x6 1257)
    (b2 : 9 < x7 → vp_in x6 16)
    (h3 : 9 < x7 → WX mi_M_mend 6 Q 65 [some (.ref 37), some (.int x1), some (.int x2), some (.int x3), some (.int x4), some (.int x5), some (.int (x6 + 1)), none, none, none] [] (wr M 48 x6.toNatClampNeg (M.1 46 x6.toNatClampNeg)))
    (b4 : ¬ 9 < x7 → ((z_M_isCell_37 M (rem x6 4) (x6 / 4)) = 0 ∨ (z_M_isCell_37 M (rem x6 4) (x6 / 4)) = 1))
    (b5 : ¬ 9 < x7 → (z_M_isDry_37 M x6) = 0 → vp_in x6 1257)
    (b6 : ¬ 9 < x7 → (z_M_isDry_37 M x6) = 0 → vp_in x6 16)
    (h7 : ¬ 9 < x7 → (z_M_isDry_37 M x6) = 0 → WX mi_M_mend 6 Q 65 [some (.ref 37), some (.int x1), some (.int x2), some (.int x3), some (.int x4), some (.int x5), some (.int (x6 + 1)), none, none, none] [] (wr M 48 x6.toNatClampNeg (M.1 46 x6.toNatClampNeg)))
    (b8 : ¬ 9 < x7 → ¬ (z_M_isDry_37 M x6) = 0 → ¬ (z_M_isDrain_37 M x6) = 0 → vp_in x6 1257)
    (b9 : ¬ 9 < x7 → ¬ (z_M_isDry_37 M x6) = 0 → ¬ (z_M_isDrain_37 M x6) = 0 → vp_in x6 16)
    (h10 : ¬ 9 < x7 → ¬ (z_M_isDry_37 M x6) = 0 → ¬ (z_M_isDrain_37 M x6) = 0 → WX mi_M_mend 6 Q 65 [some (.ref 37), some (.int x1), some (.int x2), some (.int x3), some (.int x4), some (.int x5), some (.int (x6 + 1)), none, none, none] [] (wr M 48 x6.toNatClampNeg (M.1 46 x6.toNatClampNeg)))
    (b11 : ¬ 9 < x7 → ¬ (z_M_isDry_37 M x6) = 0 → (z_M_isDrain_37 M x6) = 0 → vp_in x6 16)
    (h12 : ¬ 9 < x7 → ¬ (z_M_isDry_37 M x6) = 0 → (z_M_isDrain_37 M x6) = 0 → WX mi_M_puddles 5 (fun rv M' => WX mi_M_mend 6 Q 117 [some (.ref 37), some (.int x1), some (.int x2), some (.int x3), some (.int x4), some (.int x5), some (.int x6), some (.int x7), none, none] (rv.toList ++ []) M') 0 [some (.ref 37), some (.ref 48), none, none] [] (wr M 48 x6.toNatClampNeg x7)) :
    WX mi_M_mend 6 Q 75 [some (.ref 37), some (.int x1), some (.int x2), some (.int x3), some (.int x4), some (.int x5), some (.int x6), some (.int x7), none, none] [] M := by
  refine WX.run (pc' := 79) (L' := [some (.ref 37), some (.int x1), some (.int x2), some (.int x3), some (.int x4), some (.int x5), some (.int x6), some (.int x7), none, none]) (st' := [.int 9, .int x7]) (M' := M) (P := True) 2 rfl trivial ?_
  refine WX.icmp_gt (off := 125) (tgt := 204) rfl rfl (fun c1 => ?_) (fun c1 => ?_)
  · refine WX.run (pc' := 65) (L' := [some (.ref 37), some (.int x1), some (.int x2), some (.int x3), some (.int x4), some (.int x5), some (.int (x6 + 1)), some (.int x7), none, none]) (st' := []) (M' := (wr M 48 x6.toNatClampNeg (M.1 46 x6.toNatClampNeg))) (P := ((True ∧ vp_in x6 1257) ∧ vp_in x6 16)) 10 rfl ⟨⟨trivial, (b1 c1)⟩, (b2 c1)⟩ ?_
    refine WX.forget2 (L' := [some (.ref 37), some (.int x1), some (.int x2), some (.int x3), some (.int x4), some (.int x5), some (.int (x6 + 1)), none, none, none]) ?_ ⟨Or.inr rfl, Or.inr rfl, Or.inr rfl, Or.inr rfl, Or.inr rfl, Or.inr rfl, Or.inr rfl, Or.inl rfl, Or.inr rfl, Or.inr rfl, trivial⟩
    exact (h3 c1)
  · refine WX.run (pc' := 85) (L' := [some (.ref 37), some (.int x1), some (.int x2), some (.int x3), some (.int x4), some (.int x5), some (.int x6), some (.int x7), none, none]) (st' := [.int x6, .ref 37]) (M' := M) (P := True) 2 rfl trivial ?_
    refine WX.callV (ca := mi_M_isDry) (n := 1) (d' := 4) (st := []) (As := [.int x6]) (q := 37) rfl lk_7_184 ck_M_isDry cv_M_isDry rfl (by decide) rfl (Nat.le_of_ble_eq_true rfl) ⟨by decide, rfl, by decide⟩ (by intro w hw; simp only [List.mem_cons, List.not_mem_nil, or_false] at hw; rcases hw with rfl <;> rfl) (Nat.le_of_ble_eq_true rfl) ?_
    refine wx_M_isDry_37 M x6 (b4 c1) ?_
    show WX mi_M_mend 6 Q 88 [some (.ref 37), some (.int x1), some (.int x2), some (.int x3), some (.int x4), some (.int x5), some (.int x6), some (.int x7), none, none] [.int (z_M_isDry_37 M x6)] M
    refine WX.if_eq (off := 116) (tgt := 204) rfl rfl (fun c2 => ?_) (fun c2 => ?_)
    · refine WX.run (pc' := 65) (L' := [some (.ref 37), some (.int x1), some (.int x2), some (.int x3), some (.int x4), some (.int x5), some (.int (x6 + 1)), some (.int x7), none, none]) (st' := []) (M' := (wr M 48 x6.toNatClampNeg (M.1 46 x6.toNatClampNeg))) (P := ((True ∧ vp_in x6 1257) ∧ vp_in x6 16)) 10 rfl ⟨⟨trivial, (b5 c1 c2)⟩, (b6 c1 c2)⟩ ?_
      refine WX.forget2 (L' := [some (.ref 37), some (.int x1), some (.int x2), some (.int x3), some (.int x4), some (.int x5), some (.int (x6 + 1)), none, none, none]) ?_ ⟨Or.inr rfl, Or.inr rfl, Or.inr rfl, Or.inr rfl, Or.inr rfl, Or.inr rfl, Or.inr rfl, Or.inl rfl, Or.inr rfl, Or.inr rfl, trivial⟩
      exact (h7 c1 c2)
    · refine WX.run (pc' := 94) (L' := [some (.ref 37), some (.int x1), some (.int x2), some (.int x3), some (.int x4), some (.int x5), some (.int x6), some (.int x7), none, none]) (st' := [.int x6, .ref 37]) (M' := M) (P := True) 2 rfl trivial ?_
      refine WX.callV (ca := mi_M_isDrain) (n := 1) (d' := 1) (st := []) (As := [.int x6]) (q := 37) rfl lk_7_138 ck_M_isDrain cv_M_isDrain rfl (by decide) rfl (Nat.le_of_ble_eq_true rfl) ⟨by decide, rfl, by decide⟩ (by intro w hw; simp only [List.mem_cons, List.not_mem_nil, or_false] at hw; rcases hw with rfl <;> rfl) (Nat.le_of_ble_eq_true rfl) ?_
      refine wx_M_isDrain_37 M x6 ?_
      show WX mi_M_mend 6 Q 97 [some (.ref 37), some (.int x1), some (.int x2), some (.int x3), some (.int x4), some (.int x5), some (.int x6), some (.int x7), none, none] [.int (z_M_isDrain_37 M x6)] M
      refine WX.if_ne (off := 107) (tgt := 204) rfl rfl (fun c3 => ?_) (fun c3 => ?_)
      · refine WX.run (pc' := 65) (L' := [some (.ref 37), some (.int x1), some (.int x2), some (.int x3), some (.int x4), some (.int x5), some (.int (x6 + 1)), some (.int x7), none, none]) (st' := []) (M' := (wr M 48 x6.toNatClampNeg (M.1 46 x6.toNatClampNeg))) (P := ((True ∧ vp_in x6 1257) ∧ vp_in x6 16)) 10 rfl ⟨⟨trivial, (b8 c1 c2 c3)⟩, (b9 c1 c2 c3)⟩ ?_
        refine WX.forget2 (L' := [some (.ref 37), some (.int x1), some (.int x2), some (.int x3), some (.int x4), some (.int x5), some (.int (x6 + 1)), none, none, none]) ?_ ⟨Or.inr rfl, Or.inr rfl, Or.inr rfl, Or.inr rfl, Or.inr rfl, Or.inr rfl, Or.inr rfl, Or.inl rfl, Or.inr rfl, Or.inr rfl, trivial⟩
        exact (h10 c1 c2 c3)
      · refine WX.run (pc' := 114) (L' := [some (.ref 37), some (.int x1), some (.int x2), some (.int x3), some (.int x4), some (.int x5), some (.int x6), some (.int x7), none, none]) (st' := [.ref 48, .ref 37]) (M' := (wr M 48 x6.toNatClampNeg x7)) (P := (True ∧ vp_in x6 16)) 8 rfl ⟨trivial, (b11 c1 c2 c3)⟩ ?_
        refine WX.callV (ca := mi_M_puddles) (n := 1) (d' := 5) (st := []) (As := [.ref 48]) (q := 37) rfl lk_7_187 ck_M_puddles cv_M_puddles rfl (by decide) rfl (Nat.le_of_ble_eq_true rfl) ⟨by decide, rfl, by decide⟩ (by intro w hw; simp only [List.mem_cons, List.not_mem_nil, or_false] at hw; rcases hw with rfl <;> rfl) (Nat.le_of_ble_eq_true rfl) ?_
        exact (h12 c1 c2 c3)
theorem sg_M_mend_37_117 {Q : Option Value → Mem → Prop} (M : Mem) (x1 x2 x3 x4 x5 x6 x7 r : Int32)
    (h1 : WX mi_M_manyOf 1 (fun rv M' => WX mi_M_mend 6 Q 120 [some (.ref 37), some (.int x1), some (.int x2), some (.int x3), some (.int x4), some (.int x5), some (.int x6), some (.int x7), none, none] (rv.toList ++ []) M') 0 [some (.int r), none, none] [] M) :
    WX mi_M_mend 6 Q 117 [some (.ref 37), some (.int x1), some (.int x2), some (.int x3), some (.int x4), some (.int x5), some (.int x6), some (.int x7), none, none] [.int r] M := by
  refine WX.callS (ca := mi_M_manyOf) (n := 1) (d' := 1) (st := []) (As := [.int r]) rfl lk_7_206 ck_M_manyOf cs_M_manyOf rfl (by decide) rfl (Nat.le_of_ble_eq_true rfl) (by intro w hw; simp only [List.mem_cons, List.not_mem_nil, or_false] at hw; rcases hw with rfl <;> rfl) (Nat.le_of_ble_eq_true rfl) ?_
  exact h1
theorem sg_M_mend_37_120 {Q : Option Value → Mem → Prop} (M : Mem) (x1 x2 x3 x4 x5 x6 x7 r : Int32)
    (b1 : vp_in x6 1257)
    (b2 : (M.1 46 x6.toNatClampNeg) ≤ x7 → vp_in x6 1257)
    (h3 : (M.1 46 x6.toNatClampNeg) ≤ x7 → r < x2 → WX mi_M_mend 6 Q 75 [some (.ref 37), some (.int x1), some (.int r), some (.int x6), some (.int x7), some (.int (x7 - (M.1 46 x6.toNatClampNeg))), some (.int x6), some (.int (x7 + 1)), none, none] [] M)
    (h4 : (M.1 46 x6.toNatClampNeg) ≤ x7 → ¬ r < x2 → ¬ r = x2 → WX mi_M_mend 6 Q 75 [some (.ref 37), some (.int x1), some (.int x2), some (.int x3), some (.int x4), some (.int x5), some (.int x6), some (.int (x7 + 1)), none, none] [] M)
    (h5 : (M.1 46 x6.toNatClampNeg) ≤ x7 → ¬ r < x2 → r = x2 → x3 = (-9) → WX mi_M_mend 6 Q 75 [some (.ref 37), some (.int x1), some (.int x2), some (.int x3), some (.int x4), some (.int x5), some (.int x6), some (.int (x7 + 1)), none, none] [] M)
    (h6 : (M.1 46 x6.toNatClampNeg) ≤ x7 → ¬ r < x2 → r = x2 → ¬ x3 = (-9) → x5 ≤ (x7 - (M.1 46 x6.toNatClampNeg)) → WX mi_M_mend 6 Q 75 [some (.ref 37), some (.int x1), some (.int x2), some (.int x3), some (.int x4), some (.int x5), some (.int x6), some (.int (x7 + 1)), none, none] [] M)
    (h7 : (M.1 46 x6.toNatClampNeg) ≤ x7 → ¬ r < x2 → r = x2 → ¬ x3 = (-9) → ¬ x5 ≤ (x7 - (M.1 46 x6.toNatClampNeg)) → WX mi_M_mend 6 Q 75 [some (.ref 37), some (.int x1), some (.int r), some (.int x6), some (.int x7), some (.int (x7 - (M.1 46 x6.toNatClampNeg))), some (.int x6), some (.int (x7 + 1)), none, none] [] M)
    (b8 : ¬ (M.1 46 x6.toNatClampNeg) ≤ x7 → vp_in x6 1257)
    (h9 : ¬ (M.1 46 x6.toNatClampNeg) ≤ x7 → r < x2 → WX mi_M_mend 6 Q 75 [some (.ref 37), some (.int x1), some (.int r), some (.int x6), some (.int x7), some (.int ((M.1 46 x6.toNatClampNeg) - x7)), some (.int x6), some (.int (x7 + 1)), none, none] [] M)
    (h10 : ¬ (M.1 46 x6.toNatClampNeg) ≤ x7 → ¬ r < x2 → ¬ r = x2 → WX mi_M_mend 6 Q 75 [some (.ref 37), some (.int x1), some (.int x2), some (.int x3), some (.int x4), some (.int x5), some (.int x6), some (.int (x7 + 1)), none, none] [] M)
    (h11 : ¬ (M.1 46 x6.toNatClampNeg) ≤ x7 → ¬ r < x2 → r = x2 → x3 = (-9) → WX mi_M_mend 6 Q 75 [some (.ref 37), some (.int x1), some (.int x2), some (.int x3), some (.int x4), some (.int x5), some (.int x6), some (.int (x7 + 1)), none, none] [] M)
    (h12 : ¬ (M.1 46 x6.toNatClampNeg) ≤ x7 → ¬ r < x2 → r = x2 → ¬ x3 = (-9) → x5 ≤ ((M.1 46 x6.toNatClampNeg) - x7) → WX mi_M_mend 6 Q 75 [some (.ref 37), some (.int x1), some (.int x2), some (.int x3), some (.int x4), some (.int x5), some (.int x6), some (.int (x7 + 1)), none, none] [] M)
    (h13 : ¬ (M.1 46 x6.toNatClampNeg) ≤ x7 → ¬ r < x2 → r = x2 → ¬ x3 = (-9) → ¬ x5 ≤ ((M.1 46 x6.toNatClampNeg) - x7) → WX mi_M_mend 6 Q 75 [some (.ref 37), some (.int x1), some (.int r), some (.int x6), some (.int x7), some (.int ((M.1 46 x6.toNatClampNeg) - x7)), some (.int x6), some (.int (x7 + 1)), none, none] [] M) :
    WX mi_M_mend 6 Q 120 [some (.ref 37), some (.int x1), some (.int x2), some (.int x3), some (.int x4), some (.int x5), some (.int x6), some (.int x7), none, none] [.int r] M := by
  refine WX.run (pc' := 131) (L' := [some (.ref 37), some (.int x1), some (.int x2), some (.int x3), some (.int x4), some (.int x5), some (.int x6), some (.int x7), some (.int r), none]) (st' := [.int (M.1 46 x6.toNatClampNeg), .int x7]) (M' := M) (P := (True ∧ vp_in x6 1257)) 6 rfl ⟨trivial, b1⟩ ?_
  refine WX.icmp_ge (off := 16) (tgt := 147) rfl rfl (fun c1 => ?_) (fun c1 => ?_)
  · refine WX.run (pc' := 162) (L' := [some (.ref 37), some (.int x1), some (.int x2), some (.int x3), some (.int x4), some (.int x5), some (.int x6), some (.int x7), some (.int r), some (.int (x7 - (M.1 46 x6.toNatClampNeg)))]) (st' := [.int x2, .int r]) (M' := M) (P := (True ∧ vp_in x6 1257)) 9 rfl ⟨trivial, (b2 c1)⟩ ?_
    refine WX.icmp_lt (off := 22) (tgt := 184) rfl rfl (fun c2 => ?_) (fun c2 => ?_)
    · refine WX.run (pc' := 75) (L' := [some (.ref 37), some (.int x1), some (.int r), some (.int x6), some (.int x7), some (.int (x7 - (M.1 46 x6.toNatClampNeg))), some (.int x6), some (.int (x7 + 1)), some (.int r), some (.int (x7 - (M.1 46 x6.toNatClampNeg)))]) (st' := []) (M' := M) (P := True) 10 rfl trivial ?_
      refine WX.forget2 (L' := [some (.ref 37), some (.int x1), some (.int r), some (.int x6), some (.int x7), some (.int (x7 - (M.1 46 x6.toNatClampNeg))), some (.int x6), some (.int (x7 + 1)), none, none]) ?_ ⟨Or.inr rfl, Or.inr rfl, Or.inr rfl, Or.inr rfl, Or.inr rfl, Or.inr rfl, Or.inr rfl, Or.inr rfl, Or.inl rfl, Or.inl rfl, trivial⟩
      exact (h3 c1 c2)
    · refine WX.run (pc' := 168) (L' := [some (.ref 37), some (.int x1), some (.int x2), some (.int x3), some (.int x4), some (.int x5), some (.int x6), some (.int x7), some (.int r), some (.int (x7 - (M.1 46 x6.toNatClampNeg)))]) (st' := [.int x2, .int r]) (M' := M) (P := True) 2 rfl trivial ?_
      refine WX.icmp_ne (off := 30) (tgt := 198) rfl rfl (fun c3 => ?_) (fun c3 => ?_)
      · refine WX.run (pc' := 75) (L' := [some (.ref 37), some (.int x1), some (.int x2), some (.int x3), some (.int x4), some (.int x5), some (.int x6), some (.int (x7 + 1)), some (.int r), some (.int (x7 - (M.1 46 x6.toNatClampNeg)))]) (st' := []) (M' := M) (P := True) 2 rfl trivial ?_
        refine WX.forget2 (L' := [some (.ref 37), some (.int x1), some (.int x2), some (.int x3), some (.int x4), some (.int x5), some (.int x6), some (.int (x7 + 1)), none, none]) ?_ ⟨Or.inr rfl, Or.inr rfl, Or.inr rfl, Or.inr rfl, Or.inr rfl, Or.inr rfl, Or.inr rfl, Or.inr rfl, Or.inl rfl, Or.inl rfl, trivial⟩
        exact (h4 c1 c2 c3)
      · refine WX.run (pc' := 174) (L' := [some (.ref 37), some (.int x1), some (.int x2), some (.int x3), some (.int x4), some (.int x5), some (.int x6), some (.int x7), some (.int r), some (.int (x7 - (M.1 46 x6.toNatClampNeg)))]) (st' := [.int (-9), .int x3]) (M' := M) (P := True) 2 rfl trivial ?_
        refine WX.icmp_eq (off := 24) (tgt := 198) rfl rfl (fun c4 => ?_) (fun c4 => ?_)
        · refine WX.run (pc' := 75) (L' := [some (.ref 37), some (.int x1), some (.int x2), some (.int x3), some (.int x4), some (.int x5), some (.int x6), some (.int (x7 + 1)), some (.int r), some (.int (x7 - (M.1 46 x6.toNatClampNeg)))]) (st' := []) (M' := M) (P := True) 2 rfl trivial ?_
          refine WX.forget2 (L' := [some (.ref 37), some (.int x1), some (.int x2), some (.int x3), some (.int x4), some (.int x5), some (.int x6), some (.int (x7 + 1)), none, none]) ?_ ⟨Or.inr rfl, Or.inr rfl, Or.inr rfl, Or.inr rfl, Or.inr rfl, Or.inr rfl, Or.inr rfl, Or.inr rfl, Or.inl rfl, Or.inl rfl, trivial⟩
          exact (h5 c1 c2 c3 c4)
        · refine WX.run (pc' := 181) (L' := [some (.ref 37), some (.int x1), some (.int x2), some (.int x3), some (.int x4), some (.int x5), some (.int x6), some (.int x7), some (.int r), some (.int (x7 - (M.1 46 x6.toNatClampNeg)))]) (st' := [.int x5, .int (x7 - (M.1 46 x6.toNatClampNeg))]) (M' := M) (P := True) 2 rfl trivial ?_
          refine WX.icmp_ge (off := 17) (tgt := 198) rfl rfl (fun c5 => ?_) (fun c5 => ?_)
          · refine WX.run (pc' := 75) (L' := [some (.ref 37), some (.int x1), some (.int x2), some (.int x3), some (.int x4), some (.int x5), some (.int x6), some (.int (x7 + 1)), some (.int r), some (.int (x7 - (M.1 46 x6.toNatClampNeg)))]) (st' := []) (M' := M) (P := True) 2 rfl trivial ?_
            refine WX.forget2 (L' := [some (.ref 37), some (.int x1), some (.int x2), some (.int x3), some (.int x4), some (.int x5), some (.int x6), some (.int (x7 + 1)), none, none]) ?_ ⟨Or.inr rfl, Or.inr rfl, Or.inr rfl, Or.inr rfl, Or.inr rfl, Or.inr rfl, Or.inr rfl, Or.inr rfl, Or.inl rfl, Or.inl rfl, trivial⟩
            exact (h6 c1 c2 c3 c4 c5)
          · refine WX.run (pc' := 75) (L' := [some (.ref 37), some (.int x1), some (.int r), some (.int x6), some (.int x7), some (.int (x7 - (M.1 46 x6.toNatClampNeg))), some (.int x6), some (.int (x7 + 1)), some (.int r), some (.int (x7 - (M.1 46 x6.toNatClampNeg)))]) (st' := []) (M' := M) (P := True) 10 rfl trivial ?_
            refine WX.forget2 (L' := [some (.ref 37), some (.int x1), some (.int r), some (.int x6), some (.int x7), some (.int (x7 - (M.1 46 x6.toNatClampNeg))), some (.int x6), some (.int (x7 + 1)), none, none]) ?_ ⟨Or.inr rfl, Or.inr rfl, Or.inr rfl, Or.inr rfl, Or.inr rfl, Or.inr rfl, Or.inr rfl, Or.inr rfl, Or.inl rfl, Or.inl rfl, trivial⟩
            exact (h7 c1 c2 c3 c4 c5)
  · refine WX.run (pc' := 162) (L' := [some (.ref 37), some (.int x1), some (.int x2), some (.int x3), some (.int x4), some (.int x5), some (.int x6), some (.int x7), some (.int r), some (.int ((M.1 46 x6.toNatClampNeg) - x7))]) (st' := [.int x2, .int r]) (M' := M) (P := (True ∧ vp_in x6 1257)) 10 rfl ⟨trivial, (b8 c1)⟩ ?_
    refine WX.icmp_lt (off := 22) (tgt := 184) rfl rfl (fun c6 => ?_) (fun c6 => ?_)
    · refine WX.run (pc' := 75) (L' := [some (.ref 37), some (.int x1), some (.int r), some (.int x6), some (.int x7), some (.int ((M.1 46 x6.toNatClampNeg) - x7)), some (.int x6), some (.int (x7 + 1)), some (.int r), some (.int ((M.1 46 x6.toNatClampNeg) - x7))]) (st' := []) (M' := M) (P := True) 10 rfl trivial ?_
      refine WX.forget2 (L' := [some (.ref 37), some (.int x1), some (.int r), some (.int x6), some (.int x7), some (.int ((M.1 46 x6.toNatClampNeg) - x7)), some (.int x6), some (.int (x7 + 1)), none, none]) ?_ ⟨Or.inr rfl, Or.inr rfl, Or.inr rfl, Or.inr rfl, Or.inr rfl, Or.inr rfl, Or.inr rfl, Or.inr rfl, Or.inl rfl, Or.inl rfl, trivial⟩
      exact (h9 c1 c6)
    · refine WX.run (pc' := 168) (L' := [some (.ref 37), some (.int x1), some (.int x2), some (.int x3), some (.int x4), some (.int x5), some (.int x6), some (.int x7), some (.int r), some (.int ((M.1 46 x6.toNatClampNeg) - x7))]) (st' := [.int x2, .int r]) (M' := M) (P := True) 2 rfl trivial ?_
      refine WX.icmp_ne (off := 30) (tgt := 198) rfl rfl (fun c7 => ?_) (fun c7 => ?_)
      · refine WX.run (pc' := 75) (L' := [some (.ref 37), some (.int x1), some (.int x2), some (.int x3), some (.int x4), some (.int x5), some (.int x6), some (.int (x7 + 1)), some (.int r), some (.int ((M.1 46 x6.toNatClampNeg) - x7))]) (st' := []) (M' := M) (P := True) 2 rfl trivial ?_
        refine WX.forget2 (L' := [some (.ref 37), some (.int x1), some (.int x2), some (.int x3), some (.int x4), some (.int x5), some (.int x6), some (.int (x7 + 1)), none, none]) ?_ ⟨Or.inr rfl, Or.inr rfl, Or.inr rfl, Or.inr rfl, Or.inr rfl, Or.inr rfl, Or.inr rfl, Or.inr rfl, Or.inl rfl, Or.inl rfl, trivial⟩
        exact (h10 c1 c6 c7)
      · refine WX.run (pc' := 174) (L' := [some (.ref 37), some (.int x1), some (.int x2), some (.int x3), some (.int x4), some (.int x5), some (.int x6), some (.int x7), some (.int r), some (.int ((M.1 46 x6.toNatClampNeg) - x7))]) (st' := [.int (-9), .int x3]) (M' := M) (P := True) 2 rfl trivial ?_
        refine WX.icmp_eq (off := 24) (tgt := 198) rfl rfl (fun c8 => ?_) (fun c8 => ?_)
        · refine WX.run (pc' := 75) (L' := [some (.ref 37), some (.int x1), some (.int x2), some (.int x3), some (.int x4), some (.int x5), some (.int x6), some (.int (x7 + 1)), some (.int r), some (.int ((M.1 46 x6.toNatClampNeg) - x7))]) (st' := []) (M' := M) (P := True) 2 rfl trivial ?_
          refine WX.forget2 (L' := [some (.ref 37), some (.int x1), some (.int x2), some (.int x3), some (.int x4), some (.int x5), some (.int x6), some (.int (x7 + 1)), none, none]) ?_ ⟨Or.inr rfl, Or.inr rfl, Or.inr rfl, Or.inr rfl, Or.inr rfl, Or.inr rfl, Or.inr rfl, Or.inr rfl, Or.inl rfl, Or.inl rfl, trivial⟩
          exact (h11 c1 c6 c7 c8)
        · refine WX.run (pc' := 181) (L' := [some (.ref 37), some (.int x1), some (.int x2), some (.int x3), some (.int x4), some (.int x5), some (.int x6), some (.int x7), some (.int r), some (.int ((M.1 46 x6.toNatClampNeg) - x7))]) (st' := [.int x5, .int ((M.1 46 x6.toNatClampNeg) - x7)]) (M' := M) (P := True) 2 rfl trivial ?_
          refine WX.icmp_ge (off := 17) (tgt := 198) rfl rfl (fun c9 => ?_) (fun c9 => ?_)
          · refine WX.run (pc' := 75) (L' := [some (.ref 37), some (.int x1), some (.int x2), some (.int x3), some (.int x4), some (.int x5), some (.int x6), some (.int (x7 + 1)), some (.int r), some (.int ((M.1 46 x6.toNatClampNeg) - x7))]) (st' := []) (M' := M) (P := True) 2 rfl trivial ?_
            refine WX.forget2 (L' := [some (.ref 37), some (.int x1), some (.int x2), some (.int x3), some (.int x4), some (.int x5), some (.int x6), some (.int (x7 + 1)), none, none]) ?_ ⟨Or.inr rfl, Or.inr rfl, Or.inr rfl, Or.inr rfl, Or.inr rfl, Or.inr rfl, Or.inr rfl, Or.inr rfl, Or.inl rfl, Or.inl rfl, trivial⟩
            exact (h12 c1 c6 c7 c8 c9)
          · refine WX.run (pc' := 75) (L' := [some (.ref 37), some (.int x1), some (.int r), some (.int x6), some (.int x7), some (.int ((M.1 46 x6.toNatClampNeg) - x7)), some (.int x6), some (.int (x7 + 1)), some (.int r), some (.int ((M.1 46 x6.toNatClampNeg) - x7))]) (st' := []) (M' := M) (P := True) 10 rfl trivial ?_
            refine WX.forget2 (L' := [some (.ref 37), some (.int x1), some (.int r), some (.int x6), some (.int x7), some (.int ((M.1 46 x6.toNatClampNeg) - x7)), some (.int x6), some (.int (x7 + 1)), none, none]) ?_ ⟨Or.inr rfl, Or.inr rfl, Or.inr rfl, Or.inr rfl, Or.inr rfl, Or.inr rfl, Or.inr rfl, Or.inr rfl, Or.inl rfl, Or.inl rfl, trivial⟩
            exact (h13 c1 c6 c7 c8 c9)
theorem sg_M_plan_37_0 {Q : Option Value → Mem → Prop} (M : Mem) (x1 : Int32)
    (h1 : x1 = (-1) → WX mi_M_findPlan 5 (fun rv M' => WX mi_M_plan 6 Q 29 [some (.ref 37), some (.int x1)] (rv.toList ++ []) M') 0 [some (.ref 37), none, none, none, none, none] [] M)
    (h2 : ¬ x1 = (-1) → (z_M_in x1 0 15) = 0 → Q (some (.int (-1))) M)
    (b3 : ¬ x1 = (-1) → ¬ (z_M_in x1 0 15) = 0 → ((z_M_isCell_37 M (rem x1 4) (x1 / 4)) = 0 ∨ (z_M_isCell_37 M (rem x1 4) (x1 / 4)) = 1))
    (h4 : ¬ x1 = (-1) → ¬ (z_M_in x1 0 15) = 0 → ¬ (z_M_isThere_37 M x1) = 0 → WX mi_M_findPlan 5 (fun rv M' => WX mi_M_plan 6 Q 29 [some (.ref 37), some (.int x1)] (rv.toList ++ []) M') 0 [some (.ref 37), none, none, none, none, none] [] M)
    (h5 : ¬ x1 = (-1) → ¬ (z_M_in x1 0 15) = 0 → (z_M_isThere_37 M x1) = 0 → Q (some (.int (-1))) M) :
    WX mi_M_plan 6 Q 0 [some (.ref 37), some (.int x1)] [] M := by
  refine WX.run (pc' := 2) (L' := [some (.ref 37), some (.int x1)]) (st' := [.int (-1), .int x1]) (M' := M) (P := True) 2 rfl trivial ?_
  refine WX.icmp_eq (off := 23) (tgt := 25) rfl rfl (fun c1 => ?_) (fun c1 => ?_)
  · refine WX.run (pc' := 26) (L' := [some (.ref 37), some (.int x1)]) (st' := [.ref 37]) (M' := M) (P := True) 1 rfl trivial ?_
    refine WX.callV (ca := mi_M_findPlan) (n := 0) (d' := 5) (st := []) (As := []) (q := 37) rfl lk_7_215 ck_M_findPlan cv_M_findPlan rfl (by decide) rfl (Nat.le_of_ble_eq_true rfl) ⟨by decide, rfl, by decide⟩ (fun w hw => absurd hw List.not_mem_nil) (Nat.le_of_ble_eq_true rfl) ?_
    exact (h1 c1)
  · refine WX.run (pc' := 9) (L' := [some (.ref 37), some (.int x1)]) (st' := [.int 15, .int 0, .int x1]) (M' := M) (P := True) 3 rfl trivial ?_
    refine WX.callS (ca := mi_M_in) (n := 3) (d' := 1) (st := []) (As := [.int x1, .int 0, .int 15]) rfl lk_7_72 ck_M_in cs_M_in rfl (by decide) rfl (Nat.le_of_ble_eq_true rfl) (by intro w hw; simp only [List.mem_cons, List.not_mem_nil, or_false] at hw; rcases hw with rfl | rfl | rfl <;> rfl) (Nat.le_of_ble_eq_true rfl) ?_
    refine wx_M_in M x1 0 15 ?_
    show WX mi_M_plan 6 Q 12 [some (.ref 37), some (.int x1)] [.int (z_M_in x1 0 15)] M
    refine WX.if_eq (off := 11) (tgt := 23) rfl rfl (fun c2 => ?_) (fun c2 => ?_)
    · refine WX.run (pc' := 24) (L' := [some (.ref 37), some (.int x1)]) (st' := [.int (-1)]) (M' := M) (P := True) 1 rfl trivial ?_
      exact WX.iret rfl rfl (h2 c1 c2)
    · refine WX.run (pc' := 17) (L' := [some (.ref 37), some (.int x1)]) (st' := [.int x1, .ref 37]) (M' := M) (P := True) 2 rfl trivial ?_
      refine WX.callV (ca := mi_M_isThere) (n := 1) (d' := 3) (st := []) (As := [.int x1]) (q := 37) rfl lk_7_148 ck_M_isThere cv_M_isThere rfl (by decide) rfl (Nat.le_of_ble_eq_true rfl) ⟨by decide, rfl, by decide⟩ (by intro w hw; simp only [List.mem_cons, List.not_mem_nil, or_false] at hw; rcases hw with rfl <;> rfl) (Nat.le_of_ble_eq_true rfl) ?_
      refine wx_M_isThere_37 M x1 (b3 c1 c2) ?_
      show WX mi_M_plan 6 Q 20 [some (.ref 37), some (.int x1)] [.int (z_M_isThere_37 M x1)] M
      refine WX.if_ne (off := 5) (tgt := 25) rfl rfl (fun c3 => ?_) (fun c3 => ?_)
      · refine WX.run (pc' := 26) (L' := [some (.ref 37), some (.int x1)]) (st' := [.ref 37]) (M' := M) (P := True) 1 rfl trivial ?_
        refine WX.callV (ca := mi_M_findPlan) (n := 0) (d' := 5) (st := []) (As := []) (q := 37) rfl lk_7_215 ck_M_findPlan cv_M_findPlan rfl (by decide) rfl (Nat.le_of_ble_eq_true rfl) ⟨by decide, rfl, by decide⟩ (fun w hw => absurd hw List.not_mem_nil) (Nat.le_of_ble_eq_true rfl) ?_
        exact (h4 c1 c2 c3)
      · refine WX.run (pc' := 24) (L' := [some (.ref 37), some (.int x1)]) (st' := [.int (-1)]) (M' := M) (P := True) 1 rfl trivial ?_
        exact WX.iret rfl rfl (h5 c1 c2 c3)
theorem sg_M_plan_37_29 {Q : Option Value → Mem → Prop} (M : Mem) (x1 : Int32)
    (h1 : x1 = (-1) → Q (some (.int (M.1 37 26))) M)
    (b2 : ¬ x1 = (-1) → ¬ (M.1 37 26) = (-9) → vp_in x1 16)
    (h3 : ¬ x1 = (-1) → ¬ (M.1 37 26) = (-9) → Q (some (.int (M.1 53 x1.toNatClampNeg))) M)
    (h4 : ¬ x1 = (-1) → (M.1 37 26) = (-9) → Q (some (.int (M.1 37 26))) M) :
    WX mi_M_plan 6 Q 29 [some (.ref 37), some (.int x1)] [] M := by
  refine WX.run (pc' := 31) (L' := [some (.ref 37), some (.int x1)]) (st' := [.int (-1), .int x1]) (M' := M) (P := True) 2 rfl trivial ?_
  refine WX.icmp_eq (off := 12) (tgt := 43) rfl rfl (fun c1 => ?_) (fun c1 => ?_)
  · refine WX.run (pc' := 56) (L' := [some (.ref 37), some (.int x1)]) (st' := [.int (M.1 37 26)]) (M' := M) (P := True) 3 rfl trivial ?_
    exact WX.iret rfl rfl (h1 c1)
  · refine WX.run (pc' := 40) (L' := [some (.ref 37), some (.int x1)]) (st' := [.int (-9), .int (M.1 37 26)]) (M' := M) (P := True) 3 rfl trivial ?_
    refine WX.icmp_ne (off := 10) (tgt := 50) rfl rfl (fun c2 => ?_) (fun c2 => ?_)
    · refine WX.run (pc' := 56) (L' := [some (.ref 37), some (.int x1)]) (st' := [.int (M.1 53 x1.toNatClampNeg)]) (M' := M) (P := (True ∧ vp_in x1 16)) 4 rfl ⟨trivial, (b2 c1 c2)⟩ ?_
      exact WX.iret rfl rfl (h3 c1 c2)
    · refine WX.run (pc' := 56) (L' := [some (.ref 37), some (.int x1)]) (st' := [.int (M.1 37 26)]) (M' := M) (P := True) 3 rfl trivial ?_
      exact WX.iret rfl rfl (h4 c1 c2)
theorem sg_M_barrow_37_0 {Q : Option Value → Mem → Prop} (M : Mem) (x1 x2 : Int32)
    (h1 : ¬ (z_M_isDryAt_37 M x1 x2) = 0 → WX mi_M_barrow 6 Q 20 [some (.ref 37), some (.int x1), some (.int x2), some (.int ((4 * x2) + x1)), some (.int 0), none, none, none, none] [] M)
    (h2 : (z_M_isDryAt_37 M x1 x2) = 0 → Q (some (.int (-1))) M) :
    WX mi_M_barrow 6 Q 0 [some (.ref 37), some (.int x1), some (.int x2), none, none, none, none, none, none] [] M := by
  refine WX.run (pc' := 3) (L' := [some (.ref 37), some (.int x1), some (.int x2), none, none, none, none, none, none]) (st' := [.int x2, .int x1, .ref 37]) (M' := M) (P := True) 3 rfl trivial ?_
  refine WX.callV (ca := mi_M_isDryAt) (n := 2) (d' := 3) (st := []) (As := [.int x1, .int x2]) (q := 37) rfl lk_7_200 ck_M_isDryAt cv_M_isDryAt rfl (by decide) rfl (Nat.le_of_ble_eq_true rfl) ⟨by decide, rfl, by decide⟩ (by intro w hw; simp only [List.mem_cons, List.not_mem_nil, or_false] at hw; rcases hw with rfl | rfl <;> rfl) (Nat.le_of_ble_eq_true rfl) ?_
  refine wx_M_isDryAt_37 M x1 x2 ?_
  show WX mi_M_barrow 6 Q 6 [some (.ref 37), some (.int x1), some (.int x2), none, none, none, none, none, none] [.int (z_M_isDryAt_37 M x1 x2)] M
  refine WX.if_ne (off := 5) (tgt := 11) rfl rfl (fun c1 => ?_) (fun c1 => ?_)
  · refine WX.run (pc' := 20) (L' := [some (.ref 37), some (.int x1), some (.int x2), some (.int ((4 * x2) + x1)), some (.int 0), none, none, none, none]) (st' := []) (M' := M) (P := True) 8 rfl trivial ?_
    exact (h1 c1)
  · refine WX.run (pc' := 10) (L' := [some (.ref 37), some (.int x1), some (.int x2), none, none, none, none, none, none]) (st' := [.int (-1)]) (M' := M) (P := True) 1 rfl trivial ?_
    exact WX.iret rfl rfl (h2 c1)
theorem sg_M_barrow_37_20 {Q : Option Value → Mem → Prop} (M : Mem) (x1 x2 x3 x4 : Int32)
    (h1 : 16 ≤ x4 → WX mi_M_barrow 6 Q 70 [some (.ref 37), some (.int x1), some (.int x2), some (.int x3), some (.int 1), none, none, none, none] [] M)
    (b2 : ¬ 16 ≤ x4 → ¬ x4 = (M.1 43 0) → vp_in x4 16)
    (h3 : ¬ 16 ≤ x4 → ¬ x4 = (M.1 43 0) → WX mi_M_barrow 6 Q 20 [some (.ref 37), some (.int x1), some (.int x2), some (.int x3), some (.int (x4 + 1)), none, none, none, none] [] (wr M 54 x4.toNatClampNeg 1000))
    (b4 : ¬ 16 ≤ x4 → x4 = (M.1 43 0) → ((z_M_isCell_37 M (rem x4 4) (x4 / 4)) = 0 ∨ (z_M_isCell_37 M (rem x4 4) (x4 / 4)) = 1))
    (b5 : ¬ 16 ≤ x4 → x4 = (M.1 43 0) → (z_M_isFirm_37 M x4) = 0 → vp_in x4 16)
    (h6 : ¬ 16 ≤ x4 → x4 = (M.1 43 0) → (z_M_isFirm_37 M x4) = 0 → WX mi_M_barrow 6 Q 20 [some (.ref 37), some (.int x1), some (.int x2), some (.int x3), some (.int (x4 + 1)), none, none, none, none] [] (wr M 54 x4.toNatClampNeg 1000))
    (b7 : ¬ 16 ≤ x4 → x4 = (M.1 43 0) → ¬ (z_M_isFirm_37 M x4) = 0 → vp_in x4 16)
    (h8 : ¬ 16 ≤ x4 → x4 = (M.1 43 0) → ¬ (z_M_isFirm_37 M x4) = 0 → WX mi_M_barrow 6 Q 20 [some (.ref 37), some (.int x1), some (.int x2), some (.int x3), some (.int (x4 + 1)), none, none, none, none] [] (wr M 54 x4.toNatClampNeg 0)) :
    WX mi_M_barrow 6 Q 20 [some (.ref 37), some (.int x1), some (.int x2), some (.int x3), some (.int x4), none, none, none, none] [] M := by
  refine WX.run (pc' := 24) (L' := [some (.ref 37), some (.int x1), some (.int x2), some (.int x3), some (.int x4), none, none, none, none]) (st' := [.int 16, .int x4]) (M' := M) (P := True) 2 rfl trivial ?_
  refine WX.icmp_ge (off := 43) (tgt := 67) rfl rfl (fun c1 => ?_) (fun c1 => ?_)
  · refine WX.run (pc' := 70) (L' := [some (.ref 37), some (.int x1), some (.int x2), some (.int x3), some (.int 1), none, none, none, none]) (st' := []) (M' := M) (P := True) 2 rfl trivial ?_
    exact (h1 c1)
  · refine WX.run (pc' := 41) (L' := [some (.ref 37), some (.int x1), some (.int x2), some (.int x3), some (.int x4), none, none, none, none]) (st' := [.int (M.1 43 0), .int x4, .int x4, .ref 54]) (M' := M) (P := (True ∧ vp_in 0 2)) 8 rfl ⟨trivial, (vp_lit rfl)⟩ ?_
    refine WX.icmp_ne (off := 16) (tgt := 57) rfl rfl (fun c2 => ?_) (fun c2 => ?_)
    · refine WX.run (pc' := 20) (L' := [some (.ref 37), some (.int x1), some (.int x2), some (.int x3), some (.int (x4 + 1)), none, none, none, none]) (st' := []) (M' := (wr M 54 x4.toNatClampNeg 1000)) (P := (True ∧ vp_in x4 16)) 4 rfl ⟨trivial, (b2 c1 c2)⟩ ?_
      exact (h3 c1 c2)
    · refine WX.run (pc' := 47) (L' := [some (.ref 37), some (.int x1), some (.int x2), some (.int x3), some (.int x4), none, none, none, none]) (st' := [.int x4, .ref 37, .int x4, .ref 54]) (M' := M) (P := True) 2 rfl trivial ?_
      refine WX.callV (ca := mi_M_isFirm) (n := 1) (d' := 5) (st := [.int x4, .ref 54]) (As := [.int x4]) (q := 37) rfl lk_7_218 ck_M_isFirm cv_M_isFirm rfl (by decide) rfl (Nat.le_of_ble_eq_true rfl) ⟨by decide, rfl, by decide⟩ (by intro w hw; simp only [List.mem_cons, List.not_mem_nil, or_false] at hw; rcases hw with rfl <;> rfl) (Nat.le_of_ble_eq_true rfl) ?_
      refine wx_M_isFirm_37 M x4 (b4 c1 c2) ?_
      show WX mi_M_barrow 6 Q 50 [some (.ref 37), some (.int x1), some (.int x2), some (.int x3), some (.int x4), none, none, none, none] [.int (z_M_isFirm_37 M x4), .int x4, .ref 54] M
      refine WX.if_eq (off := 7) (tgt := 57) rfl rfl (fun c3 => ?_) (fun c3 => ?_)
      · refine WX.run (pc' := 20) (L' := [some (.ref 37), some (.int x1), some (.int x2), some (.int x3), some (.int (x4 + 1)), none, none, none, none]) (st' := []) (M' := (wr M 54 x4.toNatClampNeg 1000)) (P := (True ∧ vp_in x4 16)) 4 rfl ⟨trivial, (b5 c1 c2 c3)⟩ ?_
        exact (h6 c1 c2 c3)
      · refine WX.run (pc' := 20) (L' := [some (.ref 37), some (.int x1), some (.int x2), some (.int x3), some (.int (x4 + 1)), none, none, none, none]) (st' := []) (M' := (wr M 54 x4.toNatClampNeg 0)) (P := (True ∧ vp_in x4 16)) 5 rfl ⟨trivial, (b7 c1 c2 c3)⟩ ?_
        exact (h8 c1 c2 c3)
theorem sg_M_barrow_37_70 {Q : Option Value → Mem → Prop} (M : Mem) (x1 x2 x3 x4 : Int32)
    (b1 : x4 = 0 → vp_in x3 16)
    (b2 : x4 = 0 → (M.1 54 x3.toNatClampNeg) < 1000 → vp_in x3 16)
    (h3 : x4 = 0 → (M.1 54 x3.toNatClampNeg) < 1000 → Q (some (.int (M.1 54 x3.toNatClampNeg))) M)
    (h4 : x4 = 0 → ¬ (M.1 54 x3.toNatClampNeg) < 1000 → Q (some (.int (-9))) M)
    (h5 : ¬ x4 = 0 → WX mi_M_barrow 6 Q 81 [some (.ref 37), some (.int x1), some (.int x2), some (.int x3), some (.int 0), some (.int 0), none, none, none] [] M) :
    WX mi_M_barrow 6 Q 70 [some (.ref 37), some (.int x1), some (.int x2), some (.int x3), some (.int x4), none, none, none, none] [] M := by
  refine WX.run (pc' := 72) (L' := [some (.ref 37), some (.int x1), some (.int x2), some (.int x3), some (.int x4), none, none, none, none]) (st' := [.int x4]) (M' := M) (P := True) 1 rfl trivial ?_
  refine WX.if_eq (off := 175) (tgt := 247) rfl rfl (fun c1 => ?_) (fun c1 => ?_)
  · refine WX.run (pc' := 256) (L' := [some (.ref 37), some (.int x1), some (.int x2), some (.int x3), some (.int x4), none, none, none, none]) (st' := [.int 1000, .int (M.1 54 x3.toNatClampNeg)]) (M' := M) (P := (True ∧ vp_in x3 16)) 5 rfl ⟨trivial, (b1 c1)⟩ ?_
    refine WX.icmp_lt (off := 8) (tgt := 264) rfl rfl (fun c2 => ?_) (fun c2 => ?_)
    · refine WX.run (pc' := 270) (L' := [some (.ref 37), some (.int x1), some (.int x2), some (.int x3), some (.int x4), none, none, none, none]) (st' := [.int (M.1 54 x3.toNatClampNeg)]) (M' := M) (P := (True ∧ vp_in x3 16)) 4 rfl ⟨trivial, (b2 c1 c2)⟩ ?_
      exact WX.iret rfl rfl (h3 c1 c2)
    · refine WX.run (pc' := 270) (L' := [some (.ref 37), some (.int x1), some (.int x2), some (.int x3), some (.int x4), none, none, none, none]) (st' := [.int (-9)]) (M' := M) (P := True) 2 rfl trivial ?_
      exact WX.iret rfl rfl (h4 c1 c2)
  · refine WX.run (pc' := 81) (L' := [some (.ref 37), some (.int x1), some (.int x2), some (.int x3), some (.int 0), some (.int 0), none, none, none]) (st' := []) (M' := M) (P := True) 4 rfl trivial ?_
    exact (h5 c1)
theorem sg_M_barrow_37_81 {Q : Option Value → Mem → Prop} (M : Mem) (x1 x2 x3 x4 x5 : Int32)
    (h1 : 16 ≤ x5 → WX mi_M_barrow 6 Q 70 [some (.ref 37), some (.int x1), some (.int x2), some (.int x3), some (.int x4), none, none, none, none] [] M)
    (h2 : ¬ 16 ≤ x5 → WX mi_M_barrow 6 Q 91 [some (.ref 37), some (.int x1), some (.int x2), some (.int x3), some (.int x4), some (.int x5), some (.int 0), none, none] [] M) :
    WX mi_M_barrow 6 Q 81 [some (.ref 37), some (.int x1), some (.int x2), some (.int x3), some (.int x4), some (.int x5), none, none, none] [] M := by
  refine WX.run (pc' := 85) (L' := [some (.ref 37), some (.int x1), some (.int x2), some (.int x3), some (.int x4), some (.int x5), none, none, none]) (st' := [.int 16, .int x5]) (M' := M) (P := True) 2 rfl trivial ?_
  refine WX.icmp_ge (off := 159) (tgt := 244) rfl rfl (fun c1 => ?_) (fun c1 => ?_)
  · refine WX.run (pc' := 70) (L' := [some (.ref 37), some (.int x1), some (.int x2), some (.int x3), some (.int x4), some (.int x5), none, none, none]) (st' := []) (M' := M) (P := True) 1 rfl trivial ?_
    refine WX.forget2 (L' := [some (.ref 37), some (.int x1), some (.int x2), some (.int x3), some (.int x4), none, none, none, none]) ?_ ⟨Or.inr rfl, Or.inr rfl, Or.inr rfl, Or.inr rfl, Or.inr rfl, Or.inl rfl, Or.inr rfl, Or.inr rfl, Or.inr rfl, trivial⟩
    exact (h1 c1)
  · refine WX.run (pc' := 91) (L' := [some (.ref 37), some (.int x1), some (.int x2), some (.int x3), some (.int x4), some (.int x5), some (.int 0), none, none]) (st' := []) (M' := M) (P := True) 2 rfl trivial ?_
    exact (h2 c1)
theorem sg_M_barrow_37_91 {Q : Option Value → Mem → Prop} (M : Mem) (x1 x2 x3 x4 x5 x6 : Int32)
    (h1 : 4 ≤ x6 → WX mi_M_barrow 6 Q 81 [some (.ref 37), some (.int x1), some (.int x2), some (.int x3), some (.int x4), some (.int (x5 + 1)), none, none, none] [] M)
    (b2 : ¬ 4 ≤ x6 → ((z_M_isCell_37 M (rem x5 4) (x5 / 4)) = 0 ∨ (z_M_isCell_37 M (rem x5 4) (x5 / 4)) = 1))
    (h3 : ¬ 4 ≤ x6 → (z_M_isThere_37 M x5) = 0 → WX mi_M_barrow 6 Q 81 [some (.ref 37), some (.int x1), some (.int x2), some (.int x3), some (.int x4), some (.int (x5 + 1)), none, none, none] [] M)
    (b4 : ¬ 4 ≤ x6 → ¬ (z_M_isThere_37 M x5) = 0 → ((z_M_isCell_37 M (rem x5 4) (x5 / 4)) = 0 ∨ (z_M_isCell_37 M (rem x5 4) (x5 / 4)) = 1))
    (b5 : ¬ 4 ≤ x6 → ¬ (z_M_isThere_37 M x5) = 0 → ¬ (z_M_isFirm_37 M x5) = 0 → (z_M_beside_37 M x5 x6) = (-9) → vp_in x5 16)
    (h6 : ¬ 4 ≤ x6 → ¬ (z_M_isThere_37 M x5) = 0 → ¬ (z_M_isFirm_37 M x5) = 0 → (z_M_beside_37 M x5 x6) = (-9) → ¬ x4 = 0 → WX mi_M_barrow 6 Q 91 [some (.ref 37), some (.int x1), some (.int x2), some (.int x3), some (.int 1), some (.int x5), some (.int (x6 + 1)), none, none] [] (wr M 54 x5.toNatClampNeg (M.1 54 x5.toNatClampNeg)))
    (h7 : ¬ 4 ≤ x6 → ¬ (z_M_isThere_37 M x5) = 0 → ¬ (z_M_isFirm_37 M x5) = 0 → (z_M_beside_37 M x5 x6) = (-9) → x4 = 0 → WX mi_M_barrow 6 Q 91 [some (.ref 37), some (.int x1), some (.int x2), some (.int x3), some (.int 0), some (.int x5), some (.int (x6 + 1)), none, none] [] (wr M 54 x5.toNatClampNeg (M.1 54 x5.toNatClampNeg)))
    (b8 : ¬ 4 ≤ x6 → ¬ (z_M_isThere_37 M x5) = 0 → ¬ (z_M_isFirm_37 M x5) = 0 → ¬ (z_M_beside_37 M x5 x6) = (-9) → x5 = (M.1 43 0) → vp_in x5 16)
    (h9 : ¬ 4 ≤ x6 → ¬ (z_M_isThere_37 M x5) = 0 → ¬ (z_M_isFirm_37 M x5) = 0 → ¬ (z_M_beside_37 M x5 x6) = (-9) → x5 = (M.1 43 0) → ¬ x4 = 0 → WX mi_M_barrow 6 Q 91 [some (.ref 37), some (.int x1), some (.int x2), some (.int x3), some (.int 1), some (.int x5), some (.int (x6 + 1)), none, none] [] (wr M 54 x5.toNatClampNeg (M.1 54 x5.toNatClampNeg)))
    (h10 : ¬ 4 ≤ x6 → ¬ (z_M_isThere_37 M x5) = 0 → ¬ (z_M_isFirm_37 M x5) = 0 → ¬ (z_M_beside_37 M x5 x6) = (-9) → x5 = (M.1 43 0) → x4 = 0 → WX mi_M_barrow 6 Q 91 [some (.ref 37), some (.int x1), some (.int x2), some (.int x3), some (.int 0), some (.int x5), some (.int (x6 + 1)), none, none] [] (wr M 54 x5.toNatClampNeg (M.1 54 x5.toNatClampNeg)))
    (b11 : ¬ 4 ≤ x6 → ¬ (z_M_isThere_37 M x5) = 0 → ¬ (z_M_isFirm_37 M x5) = 0 → ¬ (z_M_beside_37 M x5 x6) = (-9) → ¬ x5 = (M.1 43 0) → ((z_M_isCell_37 M (rem (z_M_beside_37 M x5 x6) 4) ((z_M_beside_37 M x5 x6) / 4)) = 0 ∨ (z_M_isCell_37 M (rem (z_M_beside_37 M x5 x6) 4) ((z_M_beside_37 M x5 x6) / 4)) = 1))
    (b12 : ¬ 4 ≤ x6 → ¬ (z_M_isThere_37 M x5) = 0 → ¬ (z_M_isFirm_37 M x5) = 0 → ¬ (z_M_beside_37 M x5 x6) = (-9) → ¬ x5 = (M.1 43 0) → (z_M_isFirm_37 M (z_M_beside_37 M x5 x6)) = 0 → vp_in x5 16)
    (h13 : ¬ 4 ≤ x6 → ¬ (z_M_isThere_37 M x5) = 0 → ¬ (z_M_isFirm_37 M x5) = 0 → ¬ (z_M_beside_37 M x5 x6) = (-9) → ¬ x5 = (M.1 43 0) → (z_M_isFirm_37 M (z_M_beside_37 M x5 x6)) = 0 → ¬ x4 = 0 → WX mi_M_barrow 6 Q 91 [some (.ref 37), some (.int x1), some (.int x2), some (.int x3), some (.int 1), some (.int x5), some (.int (x6 + 1)), none, none] [] (wr M 54 x5.toNatClampNeg (M.1 54 x5.toNatClampNeg)))
    (h14 : ¬ 4 ≤ x6 → ¬ (z_M_isThere_37 M x5) = 0 → ¬ (z_M_isFirm_37 M x5) = 0 → ¬ (z_M_beside_37 M x5 x6) = (-9) → ¬ x5 = (M.1 43 0) → (z_M_isFirm_37 M (z_M_beside_37 M x5 x6)) = 0 → x4 = 0 → WX mi_M_barrow 6 Q 91 [some (.ref 37), some (.int x1), some (.int x2), some (.int x3), some (.int 0), some (.int x5), some (.int (x6 + 1)), none, none] [] (wr M 54 x5.toNatClampNeg (M.1 54 x5.toNatClampNeg)))
    (b15 : ¬ 4 ≤ x6 → ¬ (z_M_isThere_37 M x5) = 0 → ¬ (z_M_isFirm_37 M x5) = 0 → ¬ (z_M_beside_37 M x5 x6) = (-9) → ¬ x5 = (M.1 43 0) → ¬ (z_M_isFirm_37 M (z_M_beside_37 M x5 x6)) = 0 → vp_in (z_M_beside_37 M x5 x6) 16)
    (b16 : ¬ 4 ≤ x6 → ¬ (z_M_isThere_37 M x5) = 0 → ¬ (z_M_isFirm_37 M x5) = 0 → ¬ (z_M_beside_37 M x5 x6) = (-9) → ¬ x5 = (M.1 43 0) → ¬ (z_M_isFirm_37 M (z_M_beside_37 M x5 x6)) = 0 → vp_in x5 16)
    (b17 : ¬ 4 ≤ x6 → ¬ (z_M_isThere_37 M x5) = 0 → ¬ (z_M_isFirm_37 M x5) = 0 → ¬ (z_M_beside_37 M x5 x6) = (-9) → ¬ x5 = (M.1 43 0) → ¬ (z_M_isFirm_37 M (z_M_beside_37 M x5 x6)) = 0 → (M.1 54 x5.toNatClampNeg) ≤ ((M.1 54 (z_M_beside_37 M x5 x6).toNatClampNeg) + 1) → vp_in x5 16)
    (h18 : ¬ 4 ≤ x6 → ¬ (z_M_isThere_37 M x5) = 0 → ¬ (z_M_isFirm_37 M x5) = 0 → ¬ (z_M_beside_37 M x5 x6) = (-9) → ¬ x5 = (M.1 43 0) → ¬ (z_M_isFirm_37 M (z_M_beside_37 M x5 x6)) = 0 → (M.1 54 x5.toNatClampNeg) ≤ ((M.1 54 (z_M_beside_37 M x5 x6).toNatClampNeg) + 1) → ¬ x4 = 0 → WX mi_M_barrow 6 Q 91 [some (.ref 37), some (.int x1), some (.int x2), some (.int x3), some (.int 1), some (.int x5), some (.int (x6 + 1)), none, none] [] (wr M 54 x5.toNatClampNeg (M.1 54 x5.toNatClampNeg)))
    (h19 : ¬ 4 ≤ x6 → ¬ (z_M_isThere_37 M x5) = 0 → ¬ (z_M_isFirm_37 M x5) = 0 → ¬ (z_M_beside_37 M x5 x6) = (-9) → ¬ x5 = (M.1 43 0) → ¬ (z_M_isFirm_37 M (z_M_beside_37 M x5 x6)) = 0 → (M.1 54 x5.toNatClampNeg) ≤ ((M.1 54 (z_M_beside_37 M x5 x6).toNatClampNeg) + 1) → x4 = 0 → WX mi_M_barrow 6 Q 91 [some (.ref 37), some (.int x1), some (.int x2), some (.int x3), some (.int 0), some (.int x5), some (.int (x6 + 1)), none, none] [] (wr M 54 x5.toNatClampNeg (M.1 54 x5.toNatClampNeg)))
    (b20 : ¬ 4 ≤ x6 → ¬ (z_M_isThere_37 M x5) = 0 → ¬ (z_M_isFirm_37 M x5) = 0 → ¬ (z_M_beside_37 M x5 x6) = (-9) → ¬ x5 = (M.1 43 0) → ¬ (z_M_isFirm_37 M (z_M_beside_37 M x5 x6)) = 0 → ¬ (M.1 54 x5.toNatClampNeg) ≤ ((M.1 54 (z_M_beside_37 M x5 x6).toNatClampNeg) + 1) → vp_in (z_M_beside_37 M x5 x6) 16)
    (b21 : ¬ 4 ≤ x6 → ¬ (z_M_isThere_37 M x5) = 0 → ¬ (z_M_isFirm_37 M x5) = 0 → ¬ (z_M_beside_37 M x5 x6) = (-9) → ¬ x5 = (M.1 43 0) → ¬ (z_M_isFirm_37 M (z_M_beside_37 M x5 x6)) = 0 → ¬ (M.1 54 x5.toNatClampNeg) ≤ ((M.1 54 (z_M_beside_37 M x5 x6).toNatClampNeg) + 1) → vp_in x5 16)
    (h22 : ¬ 4 ≤ x6 → ¬ (z_M_isThere_37 M x5) = 0 → ¬ (z_M_isFirm_37 M x5) = 0 → ¬ (z_M_beside_37 M x5 x6) = (-9) → ¬ x5 = (M.1 43 0) → ¬ (z_M_isFirm_37 M (z_M_beside_37 M x5 x6)) = 0 → ¬ (M.1 54 x5.toNatClampNeg) ≤ ((M.1 54 (z_M_beside_37 M x5 x6).toNatClampNeg) + 1) → ¬ x4 = 0 → WX mi_M_barrow 6 Q 91 [some (.ref 37), some (.int x1), some (.int x2), some (.int x3), some (.int 1), some (.int x5), some (.int (x6 + 1)), none, none] [] (wr M 54 x5.toNatClampNeg ((M.1 54 (z_M_beside_37 M x5 x6).toNatClampNeg) + 1)))
    (h23 : ¬ 4 ≤ x6 → ¬ (z_M_isThere_37 M x5) = 0 → ¬ (z_M_isFirm_37 M x5) = 0 → ¬ (z_M_beside_37 M x5 x6) = (-9) → ¬ x5 = (M.1 43 0) → ¬ (z_M_isFirm_37 M (z_M_beside_37 M x5 x6)) = 0 → ¬ (M.1 54 x5.toNatClampNeg) ≤ ((M.1 54 (z_M_beside_37 M x5 x6).toNatClampNeg) + 1) → x4 = 0 → WX mi_M_barrow 6 Q 91 [some (.ref 37), some (.int x1), some (.int x2), some (.int x3), some (.int 1), some (.int x5), some (.int (x6 + 1)), none, none] [] (wr M 54 x5.toNatClampNeg ((M.1 54 (z_M_beside_37 M x5 x6).toNatClampNeg) + 1)))
    (h24 : ¬ 4 ≤ x6 → ¬ (z_M_isThere_37 M x5) = 0 → (z_M_isFirm_37 M x5) = 0 → ¬ x5 = x3 → WX mi_M_barrow 6 Q 81 [some (.ref 37), some (.int x1), some (.int x2), some (.int x3), some (.int x4), some (.int (x5 + 1)), none, none, none] [] M)
    (b25 : ¬ 4 ≤ x6 → ¬ (z_M_isThere_37 M x5) = 0 → (z_M_isFirm_37 M x5) = 0 → x5 = x3 → (z_M_beside_37 M x5 x6) = (-9) → vp_in x5 16)
    (h26 : ¬ 4 ≤ x6 → ¬ (z_M_isThere_37 M x5) = 0 → (z_M_isFirm_37 M x5) = 0 → x5 = x3 → (z_M_beside_37 M x5 x6) = (-9) → ¬ x4 = 0 → WX mi_M_barrow 6 Q 91 [some (.ref 37), some (.int x1), some (.int x2), some (.int x3), some (.int 1), some (.int x5), some (.int (x6 + 1)), none, none] [] (wr M 54 x5.toNatClampNeg (M.1 54 x5.toNatClampNeg)))
    (h27 : ¬ 4 ≤ x6 → ¬ (z_M_isThere_37 M x5) = 0 → (z_M_isFirm_37 M x5) = 0 → x5 = x3 → (z_M_beside_37 M x5 x6) = (-9) → x4 = 0 → WX mi_M_barrow 6 Q 91 [some (.ref 37), some (.int x1), some (.int x2), some (.int x3), some (.int 0), some (.int x5), some (.int (x6 + 1)), none, none] [] (wr M 54 x5.toNatClampNeg (M.1 54 x5.toNatClampNeg)))
    (b28 : ¬ 4 ≤ x6 → ¬ (z_M_isThere_37 M x5) = 0 → (z_M_isFirm_37 M x5) = 0 → x5 = x3 → ¬ (z_M_beside_37 M x5 x6) = (-9) → x5 = (M.1 43 0) → vp_in x5 16)
    (h29 : ¬ 4 ≤ x6 → ¬ (z_M_isThere_37 M x5) = 0 → (z_M_isFirm_37 M x5) = 0 → x5 = x3 → ¬ (z_M_beside_37 M x5 x6) = (-9) → x5 = (M.1 43 0) → ¬ x4 = 0 → WX mi_M_barrow 6 Q 91 [some (.ref 37), some (.int x1), some (.int x2), some (.int x3), some (.int 1), some (.int x5), some (.int (x6 + 1)), none, none] [] (wr M 54 x5.toNatClampNeg (M.1 54 x5.toNatClampNeg)))
    (h30 : ¬ 4 ≤ x6 → ¬ (z_M_isThere_37 M x5) = 0 → (z_M_isFirm_37 M x5) = 0 → x5 = x3 → ¬ (z_M_beside_37 M x5 x6) = (-9) → x5 = (M.1 43 0) → x4 = 0 → WX mi_M_barrow 6 Q 91 [some (.ref 37), some (.int x1), some (.int x2), some (.int x3), some (.int 0), some (.int x5), some (.int (x6 + 1)), none, none] [] (wr M 54 x5.toNatClampNeg (M.1 54 x5.toNatClampNeg)))
    (b31 : ¬ 4 ≤ x6 → ¬ (z_M_isThere_37 M x5) = 0 → (z_M_isFirm_37 M x5) = 0 → x5 = x3 → ¬ (z_M_beside_37 M x5 x6) = (-9) → ¬ x5 = (M.1 43 0) → ((z_M_isCell_37 M (rem (z_M_beside_37 M x5 x6) 4) ((z_M_beside_37 M x5 x6) / 4)) = 0 ∨ (z_M_isCell_37 M (rem (z_M_beside_37 M x5 x6) 4) ((z_M_beside_37 M x5 x6) / 4)) = 1))
    (b32 : ¬ 4 ≤ x6 → ¬ (z_M_isThere_37 M x5) = 0 → (z_M_isFirm_37 M x5) = 0 → x5 = x3 → ¬ (z_M_beside_37 M x5 x6) = (-9) → ¬ x5 = (M.1 43 0) → (z_M_isFirm_37 M (z_M_beside_37 M x5 x6)) = 0 → vp_in x5 16)
    (h33 : ¬ 4 ≤ x6 → ¬ (z_M_isThere_37 M x5) = 0 → (z_M_isFirm_37 M x5) = 0 → x5 = x3 → ¬ (z_M_beside_37 M x5 x6) = (-9) → ¬ x5 = (M.1 43 0) → (z_M_isFirm_37 M (z_M_beside_37 M x5 x6)) = 0 → ¬ x4 = 0 → WX mi_M_barrow 6 Q 91 [some (.ref 37), some (.int x1), some (.int x2), some (.int x3), some (.int 1), some (.int x5), some (.int (x6 + 1)), none, none] [] (wr M 54 x5.toNatClampNeg (M.1 54 x5.toNatClampNeg)))
    (h34 : ¬ 4 ≤ x6 → ¬ (z_M_isThere_37 M x5) = 0 → (z_M_isFirm_37 M x5) = 0 → x5 = x3 → ¬ (z_M_beside_37 M x5 x6) = (-9) → ¬ x5 = (M.1 43 0) → (z_M_isFirm_37 M (z_M_beside_37 M x5 x6)) = 0 → x4 = 0 → WX mi_M_barrow 6 Q 91 [some (.ref 37), some (.int x1), some (.int x2), some (.int x3), some (.int 0), some (.int x5), some (.int (x6 + 1)), none, none] [] (wr M 54 x5.toNatClampNeg (M.1 54 x5.toNatClampNeg)))
    (b35 : ¬ 4 ≤ x6 → ¬ (z_M_isThere_37 M x5) = 0 → (z_M_isFirm_37 M x5) = 0 → x5 = x3 → ¬ (z_M_beside_37 M x5 x6) = (-9) → ¬ x5 = (M.1 43 0) → ¬ (z_M_isFirm_37 M (z_M_beside_37 M x5 x6)) = 0 → vp_in (z_M_beside_37 M x5 x6) 16)
    (b36 : ¬ 4 ≤ x6 → ¬ (z_M_isThere_37 M x5) = 0 → (z_M_isFirm_37 M x5) = 0 → x5 = x3 → ¬ (z_M_beside_37 M x5 x6) = (-9) → ¬ x5 = (M.1 43 0) → ¬ (z_M_isFirm_37 M (z_M_beside_37 M x5 x6)) = 0 → vp_in x5 16)
    (b37 : ¬ 4 ≤ x6 → ¬ (z_M_isThere_37 M x5) = 0 → (z_M_isFirm_37 M x5) = 0 → x5 = x3 → ¬ (z_M_beside_37 M x5 x6) = (-9) → ¬ x5 = (M.1 43 0) → ¬ (z_M_isFirm_37 M (z_M_beside_37 M x5 x6)) = 0 → (M.1 54 x5.toNatClampNeg) ≤ ((M.1 54 (z_M_beside_37 M x5 x6).toNatClampNeg) + 1) → vp_in x5 16)
    (h38 : ¬ 4 ≤ x6 → ¬ (z_M_isThere_37 M x5) = 0 → (z_M_isFirm_37 M x5) = 0 → x5 = x3 → ¬ (z_M_beside_37 M x5 x6) = (-9) → ¬ x5 = (M.1 43 0) → ¬ (z_M_isFirm_37 M (z_M_beside_37 M x5 x6)) = 0 → (M.1 54 x5.toNatClampNeg) ≤ ((M.1 54 (z_M_beside_37 M x5 x6).toNatClampNeg) + 1) → ¬ x4 = 0 → WX mi_M_barrow 6 Q 91 [some (.ref 37), some (.int x1), some (.int x2), some (.int x3), some (.int 1), some (.int x5), some (.int (x6 + 1)), none, none] [] (wr M 54 x5.toNatClampNeg (M.1 54 x5.toNatClampNeg)))
    (h39 : ¬ 4 ≤ x6 → ¬ (z_M_isThere_37 M x5) = 0 → (z_M_isFirm_37 M x5) = 0 → x5 = x3 → ¬ (z_M_beside_37 M x5 x6) = (-9) → ¬ x5 = (M.1 43 0) → ¬ (z_M_isFirm_37 M (z_M_beside_37 M x5 x6)) = 0 → (M.1 54 x5.toNatClampNeg) ≤ ((M.1 54 (z_M_beside_37 M x5 x6).toNatClampNeg) + 1) → x4 = 0 → WX mi_M_barrow 6 Q 91 [some (.ref 37), some (.int x1), some (.int x2), some (.int x3), some (.int 0), some (.int x5), some (.int (x6 + 1)), none, none] [] (wr M 54 x5.toNatClampNeg (M.1 54 x5.toNatClampNeg)))
    (b40 : ¬ 4 ≤ x6 → ¬ (z_M_isThere_37 M x5) = 0 → (z_M_isFirm_37 M x5) = 0 → x5 = x3 → ¬ (z_M_beside_37 M x5 x6) = (-9) → ¬ x5 = (M.1 43 0) → ¬ (z_M_isFirm_37 M (z_M_beside_37 M x5 x6)) = 0 → ¬ (M.1 54 x5.toNatClampNeg) ≤ ((M.1 54 (z_M_beside_37 M x5 x6).toNatClampNeg) + 1) → vp_in (z_M_beside_37 M x5 x6) 16)
    (b41 : ¬ 4 ≤ x6 → ¬ (z_M_isThere_37 M x5) = 0 → (z_M_isFirm_37 M x5) = 0 → x5 = x3 → ¬ (z_M_beside_37 M x5 x6) = (-9) → ¬ x5 = (M.1 43 0) → ¬ (z_M_isFirm_37 M (z_M_beside_37 M x5 x6)) = 0 → ¬ (M.1 54 x5.toNatClampNeg) ≤ ((M.1 54 (z_M_beside_37 M x5 x6).toNatClampNeg) + 1) → vp_in x5 16)
    (h42 : ¬ 4 ≤ x6 → ¬ (z_M_isThere_37 M x5) = 0 → (z_M_isFirm_37 M x5) = 0 → x5 = x3 → ¬ (z_M_beside_37 M x5 x6) = (-9) → ¬ x5 = (M.1 43 0) → ¬ (z_M_isFirm_37 M (z_M_beside_37 M x5 x6)) = 0 → ¬ (M.1 54 x5.toNatClampNeg) ≤ ((M.1 54 (z_M_beside_37 M x5 x6).toNatClampNeg) + 1) → ¬ x4 = 0 → WX mi_M_barrow 6 Q 91 [some (.ref 37), some (.int x1), some (.int x2), some (.int x3), some (.int 1), some (.int x5), some (.int (x6 + 1)), none, none] [] (wr M 54 x5.toNatClampNeg ((M.1 54 (z_M_beside_37 M x5 x6).toNatClampNeg) + 1)))
    (h43 : ¬ 4 ≤ x6 → ¬ (z_M_isThere_37 M x5) = 0 → (z_M_isFirm_37 M x5) = 0 → x5 = x3 → ¬ (z_M_beside_37 M x5 x6) = (-9) → ¬ x5 = (M.1 43 0) → ¬ (z_M_isFirm_37 M (z_M_beside_37 M x5 x6)) = 0 → ¬ (M.1 54 x5.toNatClampNeg) ≤ ((M.1 54 (z_M_beside_37 M x5 x6).toNatClampNeg) + 1) → x4 = 0 → WX mi_M_barrow 6 Q 91 [some (.ref 37), some (.int x1), some (.int x2), some (.int x3), some (.int 1), some (.int x5), some (.int (x6 + 1)), none, none] [] (wr M 54 x5.toNatClampNeg ((M.1 54 (z_M_beside_37 M x5 x6).toNatClampNeg) + 1))) :
    WX mi_M_barrow 6 Q 91 [some (.ref 37), some (.int x1), some (.int x2), some (.int x3), some (.int x4), some (.int x5), some (.int x6), none, none] [] M := by
  refine WX.run (pc' := 94) (L' := [some (.ref 37), some (.int x1), some (.int x2), some (.int x3), some (.int x4), some (.int x5), some (.int x6), none, none]) (st' := [.int 4, .int x6]) (M' := M) (P := True) 2 rfl trivial ?_
  refine WX.icmp_ge (off := 144) (tgt := 238) rfl rfl (fun c1 => ?_) (fun c1 => ?_)
  · refine WX.run (pc' := 81) (L' := [some (.ref 37), some (.int x1), some (.int x2), some (.int x3), some (.int x4), some (.int (x5 + 1)), some (.int x6), none, none]) (st' := []) (M' := M) (P := True) 2 rfl trivial ?_
    refine WX.forget2 (L' := [some (.ref 37), some (.int x1), some (.int x2), some (.int x3), some (.int x4), some (.int (x5 + 1)), none, none, none]) ?_ ⟨Or.inr rfl, Or.inr rfl, Or.inr rfl, Or.inr rfl, Or.inr rfl, Or.inr rfl, Or.inl rfl, Or.inr rfl, Or.inr rfl, trivial⟩
    exact (h1 c1)
  · refine WX.run (pc' := 100) (L' := [some (.ref 37), some (.int x1), some (.int x2), some (.int x3), some (.int x4), some (.int x5), some (.int x6), none, none]) (st' := [.int x5, .ref 37]) (M' := M) (P := True) 2 rfl trivial ?_
    refine WX.callV (ca := mi_M_isThere) (n := 1) (d' := 3) (st := []) (As := [.int x5]) (q := 37) rfl lk_7_148 ck_M_isThere cv_M_isThere rfl (by decide) rfl (Nat.le_of_ble_eq_true rfl) ⟨by decide, rfl, by decide⟩ (by intro w hw; simp only [List.mem_cons, List.not_mem_nil, or_false] at hw; rcases hw with rfl <;> rfl) (Nat.le_of_ble_eq_true rfl) ?_
    refine wx_M_isThere_37 M x5 (b2 c1) ?_
    show WX mi_M_barrow 6 Q 103 [some (.ref 37), some (.int x1), some (.int x2), some (.int x3), some (.int x4), some (.int x5), some (.int x6), none, none] [.int (z_M_isThere_37 M x5)] M
    refine WX.if_eq (off := 135) (tgt := 238) rfl rfl (fun c2 => ?_) (fun c2 => ?_)
    · refine WX.run (pc' := 81) (L' := [some (.ref 37), some (.int x1), some (.int x2), some (.int x3), some (.int x4), some (.int (x5 + 1)), some (.int x6), none, none]) (st' := []) (M' := M) (P := True) 2 rfl trivial ?_
      refine WX.forget2 (L' := [some (.ref 37), some (.int x1), some (.int x2), some (.int x3), some (.int x4), some (.int (x5 + 1)), none, none, none]) ?_ ⟨Or.inr rfl, Or.inr rfl, Or.inr rfl, Or.inr rfl, Or.inr rfl, Or.inr rfl, Or.inl rfl, Or.inr rfl, Or.inr rfl, trivial⟩
      exact (h3 c1 c2)
    · refine WX.run (pc' := 109) (L' := [some (.ref 37), some (.int x1), some (.int x2), some (.int x3), some (.int x4), some (.int x5), some (.int x6), none, none]) (st' := [.int x5, .ref 37]) (M' := M) (P := True) 2 rfl trivial ?_
      refine WX.callV (ca := mi_M_isFirm) (n := 1) (d' := 5) (st := []) (As := [.int x5]) (q := 37) rfl lk_7_218 ck_M_isFirm cv_M_isFirm rfl (by decide) rfl (Nat.le_of_ble_eq_true rfl) ⟨by decide, rfl, by decide⟩ (by intro w hw; simp only [List.mem_cons, List.not_mem_nil, or_false] at hw; rcases hw with rfl <;> rfl) (Nat.le_of_ble_eq_true rfl) ?_
      refine wx_M_isFirm_37 M x5 (b4 c1 c2) ?_
      show WX mi_M_barrow 6 Q 112 [some (.ref 37), some (.int x1), some (.int x2), some (.int x3), some (.int x4), some (.int x5), some (.int x6), none, none] [.int (z_M_isFirm_37 M x5)] M
      refine WX.if_ne (off := 9) (tgt := 121) rfl rfl (fun c3 => ?_) (fun c3 => ?_)
      · refine WX.run (pc' := 126) (L' := [some (.ref 37), some (.int x1), some (.int x2), some (.int x3), some (.int x4), some (.int x5), some (.int x6), none, none]) (st' := [.int x6, .int x5, .ref 37]) (M' := M) (P := True) 3 rfl trivial ?_
        refine WX.callV (ca := mi_M_beside) (n := 2) (d' := 3) (st := []) (As := [.int x5, .int x6]) (q := 37) rfl lk_7_169 ck_M_beside cv_M_beside rfl (by decide) rfl (Nat.le_of_ble_eq_true rfl) ⟨by decide, rfl, by decide⟩ (by intro w hw; simp only [List.mem_cons, List.not_mem_nil, or_false] at hw; rcases hw with rfl | rfl <;> rfl) (Nat.le_of_ble_eq_true rfl) ?_
        refine wx_M_beside_37 M x5 x6 ?_
        show WX mi_M_barrow 6 Q 129 [some (.ref 37), some (.int x1), some (.int x2), some (.int x3), some (.int x4), some (.int x5), some (.int x6), none, none] [.int (z_M_beside_37 M x5 x6)] M
        refine WX.run (pc' := 135) (L' := [some (.ref 37), some (.int x1), some (.int x2), some (.int x3), some (.int x4), some (.int x5), some (.int x6), some (.int (z_M_beside_37 M x5 x6)), none]) (st' := [.int (-9), .int (z_M_beside_37 M x5 x6)]) (M' := M) (P := True) 3 rfl trivial ?_
        refine WX.icmp_eq (off := 46) (tgt := 181) rfl rfl (fun c4 => ?_) (fun c4 => ?_)
        · refine WX.run (pc' := 192) (L' := [some (.ref 37), some (.int x1), some (.int x2), some (.int x3), some (.int x4), some (.int x5), some (.int x6), some (.int (z_M_beside_37 M x5 x6)), some (.int 0)]) (st' := [.int 0, .int x5, .ref 54]) (M' := M) (P := True) 6 rfl trivial ?_
          refine WX.if_eq (off := 15) (tgt := 207) rfl rfl (fun _ => ?_) (fun c => absurd (by decide) c)
          refine WX.run (pc' := 217) (L' := [some (.ref 37), some (.int x1), some (.int x2), some (.int x3), some (.int x4), some (.int x5), some (.int x6), some (.int (z_M_beside_37 M x5 x6)), some (.int 0)]) (st' := [.int x4]) (M' := (wr M 54 x5.toNatClampNeg (M.1 54 x5.toNatClampNeg))) (P := ((True ∧ vp_in x5 16) ∧ vp_in x5 16)) 6 rfl ⟨⟨trivial, (b5 c1 c2 c3 c4)⟩, (b5 c1 c2 c3 c4)⟩ ?_
          refine WX.if_ne (off := 8) (tgt := 225) rfl rfl (fun c5 => ?_) (fun c5 => ?_)
          · refine WX.run (pc' := 91) (L' := [some (.ref 37), some (.int x1), some (.int x2), some (.int x3), some (.int 1), some (.int x5), some (.int (x6 + 1)), some (.int (z_M_beside_37 M x5 x6)), some (.int 0)]) (st' := []) (M' := (wr M 54 x5.toNatClampNeg (M.1 54 x5.toNatClampNeg))) (P := True) 5 rfl trivial ?_
            refine WX.forget2 (L' := [some (.ref 37), some (.int x1), some (.int x2), some (.int x3), some (.int 1), some (.int x5), some (.int (x6 + 1)), none, none]) ?_ ⟨Or.inr rfl, Or.inr rfl, Or.inr rfl, Or.inr rfl, Or.inr rfl, Or.inr rfl, Or.inr rfl, Or.inl rfl, Or.inl rfl, trivial⟩
            exact (h6 c1 c2 c3 c4 c5)
          · refine WX.run (pc' := 222) (L' := [some (.ref 37), some (.int x1), some (.int x2), some (.int x3), some (.int x4), some (.int x5), some (.int x6), some (.int (z_M_beside_37 M x5 x6)), some (.int 0)]) (st' := [.int 0]) (M' := (wr M 54 x5.toNatClampNeg (M.1 54 x5.toNatClampNeg))) (P := True) 1 rfl trivial ?_
            refine WX.if_eq (off := 7) (tgt := 229) rfl rfl (fun _ => ?_) (fun c => absurd (by decide) c)
            refine WX.run (pc' := 91) (L' := [some (.ref 37), some (.int x1), some (.int x2), some (.int x3), some (.int 0), some (.int x5), some (.int (x6 + 1)), some (.int (z_M_beside_37 M x5 x6)), some (.int 0)]) (st' := []) (M' := (wr M 54 x5.toNatClampNeg (M.1 54 x5.toNatClampNeg))) (P := True) 4 rfl trivial ?_
            refine WX.forget2 (L' := [some (.ref 37), some (.int x1), some (.int x2), some (.int x3), some (.int 0), some (.int x5), some (.int (x6 + 1)), none, none]) ?_ ⟨Or.inr rfl, Or.inr rfl, Or.inr rfl, Or.inr rfl, Or.inr rfl, Or.inr rfl, Or.inr rfl, Or.inl rfl, Or.inl rfl, trivial⟩
            exact (h7 c1 c2 c3 c4 c5)
        · refine WX.run (pc' := 146) (L' := [some (.ref 37), some (.int x1), some (.int x2), some (.int x3), some (.int x4), some (.int x5), some (.int x6), some (.int (z_M_beside_37 M x5 x6)), none]) (st' := [.int (M.1 43 0), .int x5]) (M' := M) (P := (True ∧ vp_in 0 2)) 5 rfl ⟨trivial, (vp_lit rfl)⟩ ?_
          refine WX.icmp_eq (off := 35) (tgt := 181) rfl rfl (fun c6 => ?_) (fun c6 => ?_)
          · refine WX.run (pc' := 192) (L' := [some (.ref 37), some (.int x1), some (.int x2), some (.int x3), some (.int x4), some (.int x5), some (.int x6), some (.int (z_M_beside_37 M x5 x6)), some (.int 0)]) (st' := [.int 0, .int x5, .ref 54]) (M' := M) (P := True) 6 rfl trivial ?_
            refine WX.if_eq (off := 15) (tgt := 207) rfl rfl (fun _ => ?_) (fun c => absurd (by decide) c)
            refine WX.run (pc' := 217) (L' := [some (.ref 37), some (.int x1), some (.int x2), some (.int x3), some (.int x4), some (.int x5), some (.int x6), some (.int (z_M_beside_37 M x5 x6)), some (.int 0)]) (st' := [.int x4]) (M' := (wr M 54 x5.toNatClampNeg (M.1 54 x5.toNatClampNeg))) (P := ((True ∧ vp_in x5 16) ∧ vp_in x5 16)) 6 rfl ⟨⟨trivial, (b8 c1 c2 c3 c4 c6)⟩, (b8 c1 c2 c3 c4 c6)⟩ ?_
            refine WX.if_ne (off := 8) (tgt := 225) rfl rfl (fun c7 => ?_) (fun c7 => ?_)
            · refine WX.run (pc' := 91) (L' := [some (.ref 37), some (.int x1), some (.int x2), some (.int x3), some (.int 1), some (.int x5), some (.int (x6 + 1)), some (.int (z_M_beside_37 M x5 x6)), some (.int 0)]) (st' := []) (M' := (wr M 54 x5.toNatClampNeg (M.1 54 x5.toNatClampNeg))) (P := True) 5 rfl trivial ?_
              refine WX.forget2 (L' := [some (.ref 37), some (.int x1), some (.int x2), some (.int x3), some (.int 1), some (.int x5), some (.int (x6 + 1)), none, none]) ?_ ⟨Or.inr rfl, Or.inr rfl, Or.inr rfl, Or.inr rfl, Or.inr rfl, Or.inr rfl, Or.inr rfl, Or.inl rfl, Or.inl rfl, trivial⟩
              exact (h9 c1 c2 c3 c4 c6 c7)
            · refine WX.run (pc' := 222) (L' := [some (.ref 37), some (.int x1), some (.int x2), some (.int x3), some (.int x4), some (.int x5), some (.int x6), some (.int (z_M_beside_37 M x5 x6)), some (.int 0)]) (st' := [.int 0]) (M' := (wr M 54 x5.toNatClampNeg (M.1 54 x5.toNatClampNeg))) (P := True) 1 rfl trivial ?_
              refine WX.if_eq (off := 7) (tgt := 229) rfl rfl (fun _ => ?_) (fun c => absurd (by decide) c)
              refine WX.run (pc' := 91) (L' := [some (.ref 37), some (.int x1), some (.int x2), some (.int x3), some (.int 0), some (.int x5), some (.int (x6 + 1)), some (.int (z_M_beside_37 M x5 x6)), some (.int 0)]) (st' := []) (M' := (wr M 54 x5.toNatClampNeg (M.1 54 x5.toNatClampNeg))) (P := True) 4 rfl trivial ?_
              refine WX.forget2 (L' := [some (.ref 37), some (.int x1), some (.int x2), some (.int x3), some (.int 0), some (.int x5), some (.int (x6 + 1)), none, none]) ?_ ⟨Or.inr rfl, Or.inr rfl, Or.inr rfl, Or.inr rfl, Or.inr rfl, Or.inr rfl, Or.inr rfl, Or.inl rfl, Or.inl rfl, trivial⟩
              exact (h10 c1 c2 c3 c4 c6 c7)
          · refine WX.run (pc' := 152) (L' := [some (.ref 37), some (.int x1), some (.int x2), some (.int x3), some (.int x4), some (.int x5), some (.int x6), some (.int (z_M_beside_37 M x5 x6)), none]) (st' := [.int (z_M_beside_37 M x5 x6), .ref 37]) (M' := M) (P := True) 2 rfl trivial ?_
            refine WX.callV (ca := mi_M_isFirm) (n := 1) (d' := 5) (st := []) (As := [.int (z_M_beside_37 M x5 x6)]) (q := 37) rfl lk_7_218 ck_M_isFirm cv_M_isFirm rfl (by decide) rfl (Nat.le_of_ble_eq_true rfl) ⟨by decide, rfl, by decide⟩ (by intro w hw; simp only [List.mem_cons, List.not_mem_nil, or_false] at hw; rcases hw with rfl <;> rfl) (Nat.le_of_ble_eq_true rfl) ?_
            refine wx_M_isFirm_37 M (z_M_beside_37 M x5 x6) (b11 c1 c2 c3 c4 c6) ?_
            show WX mi_M_barrow 6 Q 155 [some (.ref 37), some (.int x1), some (.int x2), some (.int x3), some (.int x4), some (.int x5), some (.int x6), some (.int (z_M_beside_37 M x5 x6)), none] [.int (z_M_isFirm_37 M (z_M_beside_37 M x5 x6))] M
            refine WX.if_eq (off := 26) (tgt := 181) rfl rfl (fun c8 => ?_) (fun c8 => ?_)
            · refine WX.run (pc' := 192) (L' := [some (.ref 37), some (.int x1), some (.int x2), some (.int x3), some (.int x4), some (.int x5), some (.int x6), some (.int (z_M_beside_37 M x5 x6)), some (.int 0)]) (st' := [.int 0, .int x5, .ref 54]) (M' := M) (P := True) 6 rfl trivial ?_
              refine WX.if_eq (off := 15) (tgt := 207) rfl rfl (fun _ => ?_) (fun c => absurd (by decide) c)
              refine WX.run (pc' := 217) (L' := [some (.ref 37), some (.int x1), some (.int x2), some (.int x3), some (.int x4), some (.int x5), some (.int x6), some (.int (z_M_beside_37 M x5 x6)), some (.int 0)]) (st' := [.int x4]) (M' := (wr M 54 x5.toNatClampNeg (M.1 54 x5.toNatClampNeg))) (P := ((True ∧ vp_in x5 16) ∧ vp_in x5 16)) 6 rfl ⟨⟨trivial, (b12 c1 c2 c3 c4 c6 c8)⟩, (b12 c1 c2 c3 c4 c6 c8)⟩ ?_
              refine WX.if_ne (off := 8) (tgt := 225) rfl rfl (fun c9 => ?_) (fun c9 => ?_)
              · refine WX.run (pc' := 91) (L' := [some (.ref 37), some (.int x1), some (.int x2), some (.int x3), some (.int 1), some (.int x5), some (.int (x6 + 1)), some (.int (z_M_beside_37 M x5 x6)), some (.int 0)]) (st' := []) (M' := (wr M 54 x5.toNatClampNeg (M.1 54 x5.toNatClampNeg))) (P := True) 5 rfl trivial ?_
                refine WX.forget2 (L' := [some (.ref 37), some (.int x1), some (.int x2), some (.int x3), some (.int 1), some (.int x5), some (.int (x6 + 1)), none, none]) ?_ ⟨Or.inr rfl, Or.inr rfl, Or.inr rfl, Or.inr rfl, Or.inr rfl, Or.inr rfl, Or.inr rfl, Or.inl rfl, Or.inl rfl, trivial⟩
                exact (h13 c1 c2 c3 c4 c6 c8 c9)
              · refine WX.run (pc' := 222) (L' := [some (.ref 37), some (.int x1), some (.int x2), some (.int x3), some (.int x4), some (.int x5), some (.int x6), some (.int (z_M_beside_37 M x5 x6)), some (.int 0)]) (st' := [.int 0]) (M' := (wr M 54 x5.toNatClampNeg (M.1 54 x5.toNatClampNeg))) (P := True) 1 rfl trivial ?_
                refine WX.if_eq (off := 7) (tgt := 229) rfl rfl (fun _ => ?_) (fun c => absurd (by decide) c)
                refine WX.run (pc' := 91) (L' := [some (.ref 37), some (.int x1), some (.int x2), some (.int x3), some (.int 0), some (.int x5), some (.int (x6 + 1)), some (.int (z_M_beside_37 M x5 x6)), some (.int 0)]) (st' := []) (M' := (wr M 54 x5.toNatClampNeg (M.1 54 x5.toNatClampNeg))) (P := True) 4 rfl trivial ?_
                refine WX.forget2 (L' := [some (.ref 37), some (.int x1), some (.int x2), some (.int x3), some (.int 0), some (.int x5), some (.int (x6 + 1)), none, none]) ?_ ⟨Or.inr rfl, Or.inr rfl, Or.inr rfl, Or.inr rfl, Or.inr rfl, Or.inr rfl, Or.inr rfl, Or.inl rfl, Or.inl rfl, trivial⟩
                exact (h14 c1 c2 c3 c4 c6 c8 c9)
            · refine WX.run (pc' := 174) (L' := [some (.ref 37), some (.int x1), some (.int x2), some (.int x3), some (.int x4), some (.int x5), some (.int x6), some (.int (z_M_beside_37 M x5 x6)), none]) (st' := [.int (M.1 54 x5.toNatClampNeg), .int ((M.1 54 (z_M_beside_37 M x5 x6).toNatClampNeg) + 1)]) (M' := M) (P := ((True ∧ vp_in (z_M_beside_37 M x5 x6) 16) ∧ vp_in x5 16)) 10 rfl ⟨⟨trivial, (b15 c1 c2 c3 c4 c6 c8)⟩, (b16 c1 c2 c3 c4 c6 c8)⟩ ?_
              refine WX.icmp_ge (off := 7) (tgt := 181) rfl rfl (fun c10 => ?_) (fun c10 => ?_)
              · refine WX.run (pc' := 192) (L' := [some (.ref 37), some (.int x1), some (.int x2), some (.int x3), some (.int x4), some (.int x5), some (.int x6), some (.int (z_M_beside_37 M x5 x6)), some (.int 0)]) (st' := [.int 0, .int x5, .ref 54]) (M' := M) (P := True) 6 rfl trivial ?_
                refine WX.if_eq (off := 15) (tgt := 207) rfl rfl (fun _ => ?_) (fun c => absurd (by decide) c)
                refine WX.run (pc' := 217) (L' := [some (.ref 37), some (.int x1), some (.int x2), some (.int x3), some (.int x4), some (.int x5), some (.int x6), some (.int (z_M_beside_37 M x5 x6)), some (.int 0)]) (st' := [.int x4]) (M' := (wr M 54 x5.toNatClampNeg (M.1 54 x5.toNatClampNeg))) (P := ((True ∧ vp_in x5 16) ∧ vp_in x5 16)) 6 rfl ⟨⟨trivial, (b17 c1 c2 c3 c4 c6 c8 c10)⟩, (b17 c1 c2 c3 c4 c6 c8 c10)⟩ ?_
                refine WX.if_ne (off := 8) (tgt := 225) rfl rfl (fun c11 => ?_) (fun c11 => ?_)
                · refine WX.run (pc' := 91) (L' := [some (.ref 37), some (.int x1), some (.int x2), some (.int x3), some (.int 1), some (.int x5), some (.int (x6 + 1)), some (.int (z_M_beside_37 M x5 x6)), some (.int 0)]) (st' := []) (M' := (wr M 54 x5.toNatClampNeg (M.1 54 x5.toNatClampNeg))) (P := True) 5 rfl trivial ?_
                  refine WX.forget2 (L' := [some (.ref 37), some (.int x1), some (.int x2), some (.int x3), some (.int 1), some (.int x5), some (.int (x6 + 1)), none, none]) ?_ ⟨Or.inr rfl, Or.inr rfl, Or.inr rfl, Or.inr rfl, Or.inr rfl, Or.inr rfl, Or.inr rfl, Or.inl rfl, Or.inl rfl, trivial⟩
                  exact (h18 c1 c2 c3 c4 c6 c8 c10 c11)
                · refine WX.run (pc' := 222) (L' := [some (.ref 37), some (.int x1), some (.int x2), some (.int x3), some (.int x4), some (.int x5), some (.int x6), some (.int (z_M_beside_37 M x5 x6)), some (.int 0)]) (st' := [.int 0]) (M' := (wr M 54 x5.toNatClampNeg (M.1 54 x5.toNatClampNeg))) (P := True) 1 rfl trivial ?_
                  refine WX.if_eq (off := 7) (tgt := 229) rfl rfl (fun _ => ?_) (fun c => absurd (by decide) c)
                  refine WX.run (pc' := 91) (L' := [some (.ref 37), some (.int x1), some (.int x2), some (.int x3), some (.int 0), some (.int x5), some (.int (x6 + 1)), some (.int (z_M_beside_37 M x5 x6)), some (.int 0)]) (st' := []) (M' := (wr M 54 x5.toNatClampNeg (M.1 54 x5.toNatClampNeg))) (P := True) 4 rfl trivial ?_
                  refine WX.forget2 (L' := [some (.ref 37), some (.int x1), some (.int x2), some (.int x3), some (.int 0), some (.int x5), some (.int (x6 + 1)), none, none]) ?_ ⟨Or.inr rfl, Or.inr rfl, Or.inr rfl, Or.inr rfl, Or.inr rfl, Or.inr rfl, Or.inr rfl, Or.inl rfl, Or.inl rfl, trivial⟩
                  exact (h19 c1 c2 c3 c4 c6 c8 c10 c11)
              · refine WX.run (pc' := 192) (L' := [some (.ref 37), some (.int x1), some (.int x2), some (.int x3), some (.int x4), some (.int x5), some (.int x6), some (.int (z_M_beside_37 M x5 x6)), some (.int 1)]) (st' := [.int 1, .int x5, .ref 54]) (M' := M) (P := True) 7 rfl trivial ?_
                refine WX.if_eq (off := 15) (tgt := 207) rfl rfl (fun c => absurd c (by decide)) (fun _ => ?_)
                refine WX.run (pc' := 217) (L' := [some (.ref 37), some (.int x1), some (.int x2), some (.int x3), some (.int x4), some (.int x5), some (.int x6), some (.int (z_M_beside_37 M x5 x6)), some (.int 1)]) (st' := [.int x4]) (M' := (wr M 54 x5.toNatClampNeg ((M.1 54 (z_M_beside_37 M x5 x6).toNatClampNeg) + 1))) (P := ((True ∧ vp_in (z_M_beside_37 M x5 x6) 16) ∧ vp_in x5 16)) 9 rfl ⟨⟨trivial, (b20 c1 c2 c3 c4 c6 c8 c10)⟩, (b21 c1 c2 c3 c4 c6 c8 c10)⟩ ?_
                refine WX.if_ne (off := 8) (tgt := 225) rfl rfl (fun c12 => ?_) (fun c12 => ?_)
                · refine WX.run (pc' := 91) (L' := [some (.ref 37), some (.int x1), some (.int x2), some (.int x3), some (.int 1), some (.int x5), some (.int (x6 + 1)), some (.int (z_M_beside_37 M x5 x6)), some (.int 1)]) (st' := []) (M' := (wr M 54 x5.toNatClampNeg ((M.1 54 (z_M_beside_37 M x5 x6).toNatClampNeg) + 1))) (P := True) 5 rfl trivial ?_
                  refine WX.forget2 (L' := [some (.ref 37), some (.int x1), some (.int x2), some (.int x3), some (.int 1), some (.int x5), some (.int (x6 + 1)), none, none]) ?_ ⟨Or.inr rfl, Or.inr rfl, Or.inr rfl, Or.inr rfl, Or.inr rfl, Or.inr rfl, Or.inr rfl, Or.inl rfl, Or.inl rfl, trivial⟩
                  exact (h22 c1 c2 c3 c4 c6 c8 c10 c12)
                · refine WX.run (pc' := 222) (L' := [some (.ref 37), some (.int x1), some (.int x2), some (.int x3), some (.int x4), some (.int x5), some (.int x6), some (.int (z_M_beside_37 M x5 x6)), some (.int 1)]) (st' := [.int 1]) (M' := (wr M 54 x5.toNatClampNeg ((M.1 54 (z_M_beside_37 M x5 x6).toNatClampNeg) + 1))) (P := True) 1 rfl trivial ?_
                  refine WX.if_eq (off := 7) (tgt := 229) rfl rfl (fun c => absurd c (by decide)) (fun _ => ?_)
                  refine WX.run (pc' := 91) (L' := [some (.ref 37), some (.int x1), some (.int x2), some (.int x3), some (.int 1), some (.int x5), some (.int (x6 + 1)), some (.int (z_M_beside_37 M x5 x6)), some (.int 1)]) (st' := []) (M' := (wr M 54 x5.toNatClampNeg ((M.1 54 (z_M_beside_37 M x5 x6).toNatClampNeg) + 1))) (P := True) 5 rfl trivial ?_
                  refine WX.forget2 (L' := [some (.ref 37), some (.int x1), some (.int x2), some (.int x3), some (.int 1), some (.int x5), some (.int (x6 + 1)), none, none]) ?_ ⟨Or.inr rfl, Or.inr rfl, Or.inr rfl, Or.inr rfl, Or.inr rfl, Or.inr rfl, Or.inr rfl, Or.inl rfl, Or.inl rfl, trivial⟩
                  exact (h23 c1 c2 c3 c4 c6 c8 c10 c12)
      · refine WX.run (pc' := 118) (L' := [some (.ref 37), some (.int x1), some (.int x2), some (.int x3), some (.int x4), some (.int x5), some (.int x6), none, none]) (st' := [.int x3, .int x5]) (M' := M) (P := True) 2 rfl trivial ?_
        refine WX.icmp_ne (off := 120) (tgt := 238) rfl rfl (fun c13 => ?_) (fun c13 => ?_)
        · refine WX.run (pc' := 81) (L' := [some (.ref 37), some (.int x1), some (.int x2), some (.int x3), some (.int x4), some (.int (x5 + 1)), some (.int x6), none, none]) (st' := []) (M' := M) (P := True) 2 rfl trivial ?_
          refine WX.forget2 (L' := [some (.ref 37), some (.int x1), some (.int x2), some (.int x3), some (.int x4), some (.int (x5 + 1)), none, none, none]) ?_ ⟨Or.inr rfl, Or.inr rfl, Or.inr rfl, Or.inr rfl, Or.inr rfl, Or.inr rfl, Or.inl rfl, Or.inr rfl, Or.inr rfl, trivial⟩
          exact (h24 c1 c2 c3 c13)
        · refine WX.run (pc' := 126) (L' := [some (.ref 37), some (.int x1), some (.int x2), some (.int x3), some (.int x4), some (.int x5), some (.int x6), none, none]) (st' := [.int x6, .int x5, .ref 37]) (M' := M) (P := True) 3 rfl trivial ?_
          refine WX.callV (ca := mi_M_beside) (n := 2) (d' := 3) (st := []) (As := [.int x5, .int x6]) (q := 37) rfl lk_7_169 ck_M_beside cv_M_beside rfl (by decide) rfl (Nat.le_of_ble_eq_true rfl) ⟨by decide, rfl, by decide⟩ (by intro w hw; simp only [List.mem_cons, List.not_mem_nil, or_false] at hw; rcases hw with rfl | rfl <;> rfl) (Nat.le_of_ble_eq_true rfl) ?_
          refine wx_M_beside_37 M x5 x6 ?_
          show WX mi_M_barrow 6 Q 129 [some (.ref 37), some (.int x1), some (.int x2), some (.int x3), some (.int x4), some (.int x5), some (.int x6), none, none] [.int (z_M_beside_37 M x5 x6)] M
          refine WX.run (pc' := 135) (L' := [some (.ref 37), some (.int x1), some (.int x2), some (.int x3), some (.int x4), some (.int x5), some (.int x6), some (.int (z_M_beside_37 M x5 x6)), none]) (st' := [.int (-9), .int (z_M_beside_37 M x5 x6)]) (M' := M) (P := True) 3 rfl trivial ?_
          refine WX.icmp_eq (off := 46) (tgt := 181) rfl rfl (fun c14 => ?_) (fun c14 => ?_)
          · refine WX.run (pc' := 192) (L' := [some (.ref 37), some (.int x1), some (.int x2), some (.int x3), some (.int x4), some (.int x5), some (.int x6), some (.int (z_M_beside_37 M x5 x6)), some (.int 0)]) (st' := [.int 0, .int x5, .ref 54]) (M' := M) (P := True) 6 rfl trivial ?_
            refine WX.if_eq (off := 15) (tgt := 207) rfl rfl (fun _ => ?_) (fun c => absurd (by decide) c)
            refine WX.run (pc' := 217) (L' := [some (.ref 37), some (.int x1), some (.int x2), some (.int x3), some (.int x4), some (.int x5), some (.int x6), some (.int (z_M_beside_37 M x5 x6)), some (.int 0)]) (st' := [.int x4]) (M' := (wr M 54 x5.toNatClampNeg (M.1 54 x5.toNatClampNeg))) (P := ((True ∧ vp_in x5 16) ∧ vp_in x5 16)) 6 rfl ⟨⟨trivial, (b25 c1 c2 c3 c13 c14)⟩, (b25 c1 c2 c3 c13 c14)⟩ ?_
            refine WX.if_ne (off := 8) (tgt := 225) rfl rfl (fun c15 => ?_) (fun c15 => ?_)
            · refine WX.run (pc' := 91) (L' := [some (.ref 37), some (.int x1), some (.int x2), some (.int x3), some (.int 1), some (.int x5), some (.int (x6 + 1)), some (.int (z_M_beside_37 M x5 x6)), some (.int 0)]) (st' := []) (M' := (wr M 54 x5.toNatClampNeg (M.1 54 x5.toNatClampNeg))) (P := True) 5 rfl trivial ?_
              refine WX.forget2 (L' := [some (.ref 37), some (.int x1), some (.int x2), some (.int x3), some (.int 1), some (.int x5), some (.int (x6 + 1)), none, none]) ?_ ⟨Or.inr rfl, Or.inr rfl, Or.inr rfl, Or.inr rfl, Or.inr rfl, Or.inr rfl, Or.inr rfl, Or.inl rfl, Or.inl rfl, trivial⟩
              exact (h26 c1 c2 c3 c13 c14 c15)
            · refine WX.run (pc' := 222) (L' := [some (.ref 37), some (.int x1), some (.int x2), some (.int x3), some (.int x4), some (.int x5), some (.int x6), some (.int (z_M_beside_37 M x5 x6)), some (.int 0)]) (st' := [.int 0]) (M' := (wr M 54 x5.toNatClampNeg (M.1 54 x5.toNatClampNeg))) (P := True) 1 rfl trivial ?_
              refine WX.if_eq (off := 7) (tgt := 229) rfl rfl (fun _ => ?_) (fun c => absurd (by decide) c)
              refine WX.run (pc' := 91) (L' := [some (.ref 37), some (.int x1), some (.int x2), some (.int x3), some (.int 0), some (.int x5), some (.int (x6 + 1)), some (.int (z_M_beside_37 M x5 x6)), some (.int 0)]) (st' := []) (M' := (wr M 54 x5.toNatClampNeg (M.1 54 x5.toNatClampNeg))) (P := True) 4 rfl trivial ?_
              refine WX.forget2 (L' := [some (.ref 37), some (.int x1), some (.int x2), some (.int x3), some (.int 0), some (.int x5), some (.int (x6 + 1)), none, none]) ?_ ⟨Or.inr rfl, Or.inr rfl, Or.inr rfl, Or.inr rfl, Or.inr rfl, Or.inr rfl, Or.inr rfl, Or.inl rfl, Or.inl rfl, trivial⟩
              exact (h27 c1 c2 c3 c13 c14 c15)
          · refine WX.run (pc' := 146) (L' := [some (.ref 37), some (.int x1), some (.int x2), some (.int x3), some (.int x4), some (.int x5), some (.int x6), some (.int (z_M_beside_37 M x5 x6)), none]) (st' := [.int (M.1 43 0), .int x5]) (M' := M) (P := (True ∧ vp_in 0 2)) 5 rfl ⟨trivial, (vp_lit rfl)⟩ ?_
            refine WX.icmp_eq (off := 35) (tgt := 181) rfl rfl (fun c16 => ?_) (fun c16 => ?_)
            · refine WX.run (pc' := 192) (L' := [some (.ref 37), some (.int x1), some (.int x2), some (.int x3), some (.int x4), some (.int x5), some (.int x6), some (.int (z_M_beside_37 M x5 x6)), some (.int 0)]) (st' := [.int 0, .int x5, .ref 54]) (M' := M) (P := True) 6 rfl trivial ?_
              refine WX.if_eq (off := 15) (tgt := 207) rfl rfl (fun _ => ?_) (fun c => absurd (by decide) c)
              refine WX.run (pc' := 217) (L' := [some (.ref 37), some (.int x1), some (.int x2), some (.int x3), some (.int x4), some (.int x5), some (.int x6), some (.int (z_M_beside_37 M x5 x6)), some (.int 0)]) (st' := [.int x4]) (M' := (wr M 54 x5.toNatClampNeg (M.1 54 x5.toNatClampNeg))) (P := ((True ∧ vp_in x5 16) ∧ vp_in x5 16)) 6 rfl ⟨⟨trivial, (b28 c1 c2 c3 c13 c14 c16)⟩, (b28 c1 c2 c3 c13 c14 c16)⟩ ?_
              refine WX.if_ne (off := 8) (tgt := 225) rfl rfl (fun c17 => ?_) (fun c17 => ?_)
              · refine WX.run (pc' := 91) (L' := [some (.ref 37), some (.int x1), some (.int x2), some (.int x3), some (.int 1), some (.int x5), some (.int (x6 + 1)), some (.int (z_M_beside_37 M x5 x6)), some (.int 0)]) (st' := []) (M' := (wr M 54 x5.toNatClampNeg (M.1 54 x5.toNatClampNeg))) (P := True) 5 rfl trivial ?_
                refine WX.forget2 (L' := [some (.ref 37), some (.int x1), some (.int x2), some (.int x3), some (.int 1), some (.int x5), some (.int (x6 + 1)), none, none]) ?_ ⟨Or.inr rfl, Or.inr rfl, Or.inr rfl, Or.inr rfl, Or.inr rfl, Or.inr rfl, Or.inr rfl, Or.inl rfl, Or.inl rfl, trivial⟩
                exact (h29 c1 c2 c3 c13 c14 c16 c17)
              · refine WX.run (pc' := 222) (L' := [some (.ref 37), some (.int x1), some (.int x2), some (.int x3), some (.int x4), some (.int x5), some (.int x6), some (.int (z_M_beside_37 M x5 x6)), some (.int 0)]) (st' := [.int 0]) (M' := (wr M 54 x5.toNatClampNeg (M.1 54 x5.toNatClampNeg))) (P := True) 1 rfl trivial ?_
                refine WX.if_eq (off := 7) (tgt := 229) rfl rfl (fun _ => ?_) (fun c => absurd (by decide) c)
                refine WX.run (pc' := 91) (L' := [some (.ref 37), some (.int x1), some (.int x2), some (.int x3), some (.int 0), some (.int x5), some (.int (x6 + 1)), some (.int (z_M_beside_37 M x5 x6)), some (.int 0)]) (st' := []) (M' := (wr M 54 x5.toNatClampNeg (M.1 54 x5.toNatClampNeg))) (P := True) 4 rfl trivial ?_
                refine WX.forget2 (L' := [some (.ref 37), some (.int x1), some (.int x2), some (.int x3), some (.int 0), some (.int x5), some (.int (x6 + 1)), none, none]) ?_ ⟨Or.inr rfl, Or.inr rfl, Or.inr rfl, Or.inr rfl, Or.inr rfl, Or.inr rfl, Or.inr rfl, Or.inl rfl, Or.inl rfl, trivial⟩
                exact (h30 c1 c2 c3 c13 c14 c16 c17)
            · refine WX.run (pc' := 152) (L' := [some (.ref 37), some (.int x1), some (.int x2), some (.int x3), some (.int x4), some (.int x5), some (.int x6), some (.int (z_M_beside_37 M x5 x6)), none]) (st' := [.int (z_M_beside_37 M x5 x6), .ref 37]) (M' := M) (P := True) 2 rfl trivial ?_
              refine WX.callV (ca := mi_M_isFirm) (n := 1) (d' := 5) (st := []) (As := [.int (z_M_beside_37 M x5 x6)]) (q := 37) rfl lk_7_218 ck_M_isFirm cv_M_isFirm rfl (by decide) rfl (Nat.le_of_ble_eq_true rfl) ⟨by decide, rfl, by decide⟩ (by intro w hw; simp only [List.mem_cons, List.not_mem_nil, or_false] at hw; rcases hw with rfl <;> rfl) (Nat.le_of_ble_eq_true rfl) ?_
              refine wx_M_isFirm_37 M (z_M_beside_37 M x5 x6) (b31 c1 c2 c3 c13 c14 c16) ?_
              show WX mi_M_barrow 6 Q 155 [some (.ref 37), some (.int x1), some (.int x2), some (.int x3), some (.int x4), some (.int x5), some (.int x6), some (.int (z_M_beside_37 M x5 x6)), none] [.int (z_M_isFirm_37 M (z_M_beside_37 M x5 x6))] M
              refine WX.if_eq (off := 26) (tgt := 181) rfl rfl (fun c18 => ?_) (fun c18 => ?_)
              · refine WX.run (pc' := 192) (L' := [some (.ref 37), some (.int x1), some (.int x2), some (.int x3), some (.int x4), some (.int x5), some (.int x6), some (.int (z_M_beside_37 M x5 x6)), some (.int 0)]) (st' := [.int 0, .int x5, .ref 54]) (M' := M) (P := True) 6 rfl trivial ?_
                refine WX.if_eq (off := 15) (tgt := 207) rfl rfl (fun _ => ?_) (fun c => absurd (by decide) c)
                refine WX.run (pc' := 217) (L' := [some (.ref 37), some (.int x1), some (.int x2), some (.int x3), some (.int x4), some (.int x5), some (.int x6), some (.int (z_M_beside_37 M x5 x6)), some (.int 0)]) (st' := [.int x4]) (M' := (wr M 54 x5.toNatClampNeg (M.1 54 x5.toNatClampNeg))) (P := ((True ∧ vp_in x5 16) ∧ vp_in x5 16)) 6 rfl ⟨⟨trivial, (b32 c1 c2 c3 c13 c14 c16 c18)⟩, (b32 c1 c2 c3 c13 c14 c16 c18)⟩ ?_
                refine WX.if_ne (off := 8) (tgt := 225) rfl rfl (fun c19 => ?_) (fun c19 => ?_)
                · refine WX.run (pc' := 91) (L' := [some (.ref 37), some (.int x1), some (.int x2), some (.int x3), some (.int 1), some (.int x5), some (.int (x6 + 1)), some (.int (z_M_beside_37 M x5 x6)), some (.int 0)]) (st' := []) (M' := (wr M 54 x5.toNatClampNeg (M.1 54 x5.toNatClampNeg))) (P := True) 5 rfl trivial ?_
                  refine WX.forget2 (L' := [some (.ref 37), some (.int x1), some (.int x2), some (.int x3), some (.int 1), some (.int x5), some (.int (x6 + 1)), none, none]) ?_ ⟨Or.inr rfl, Or.inr rfl, Or.inr rfl, Or.inr rfl, Or.inr rfl, Or.inr rfl, Or.inr rfl, Or.inl rfl, Or.inl rfl, trivial⟩
                  exact (h33 c1 c2 c3 c13 c14 c16 c18 c19)
                · refine WX.run (pc' := 222) (L' := [some (.ref 37), some (.int x1), some (.int x2), some (.int x3), some (.int x4), some (.int x5), some (.int x6), some (.int (z_M_beside_37 M x5 x6)), some (.int 0)]) (st' := [.int 0]) (M' := (wr M 54 x5.toNatClampNeg (M.1 54 x5.toNatClampNeg))) (P := True) 1 rfl trivial ?_
                  refine WX.if_eq (off := 7) (tgt := 229) rfl rfl (fun _ => ?_) (fun c => absurd (by decide) c)
                  refine WX.run (pc' := 91) (L' := [some (.ref 37), some (.int x1), some (.int x2), some (.int x3), some (.int 0), some (.int x5), some (.int (x6 + 1)), some (.int (z_M_beside_37 M x5 x6)), some (.int 0)]) (st' := []) (M' := (wr M 54 x5.toNatClampNeg (M.1 54 x5.toNatClampNeg))) (P := True) 4 rfl trivial ?_
                  refine WX.forget2 (L' := [some (.ref 37), some (.int x1), some (.int x2), some (.int x3), some (.int 0), some (.int x5), some (.int (x6 + 1)), none, none]) ?_ ⟨Or.inr rfl, Or.inr rfl, Or.inr rfl, Or.inr rfl, Or.inr rfl, Or.inr rfl, Or.inr rfl, Or.inl rfl, Or.inl rfl, trivial⟩
                  exact (h34 c1 c2 c3 c13 c14 c16 c18 c19)
              · refine WX.run (pc' := 174) (L' := [some (.ref 37), some (.int x1), some (.int x2), some (.int x3), some (.int x4), some (.int x5), some (.int x6), some (.int (z_M_beside_37 M x5 x6)), none]) (st' := [.int (M.1 54 x5.toNatClampNeg), .int ((M.1 54 (z_M_beside_37 M x5 x6).toNatClampNeg) + 1)]) (M' := M) (P := ((True ∧ vp_in (z_M_beside_37 M x5 x6) 16) ∧ vp_in x5 16)) 10 rfl ⟨⟨trivial, (b35 c1 c2 c3 c13 c14 c16 c18)⟩, (b36 c1 c2 c3 c13 c14 c16 c18)⟩ ?_
                refine WX.icmp_ge (off := 7) (tgt := 181) rfl rfl (fun c20 => ?_) (fun c20 => ?_)
                · refine WX.run (pc' := 192) (L' := [some (.ref 37), some (.int x1), some (.int x2), some (.int x3), some (.int x4), some (.int x5), some (.int x6), some (.int (z_M_beside_37 M x5 x6)), some (.int 0)]) (st' := [.int 0, .int x5, .ref 54]) (M' := M) (P := True) 6 rfl trivial ?_
                  refine WX.if_eq (off := 15) (tgt := 207) rfl rfl (fun _ => ?_) (fun c => absurd (by decide) c)
                  refine WX.run (pc' := 217) (L' := [some (.ref 37), some (.int x1), some (.int x2), some (.int x3), some (.int x4), some (.int x5), some (.int x6), some (.int (z_M_beside_37 M x5 x6)), some (.int 0)]) (st' := [.int x4]) (M' := (wr M 54 x5.toNatClampNeg (M.1 54 x5.toNatClampNeg))) (P := ((True ∧ vp_in x5 16) ∧ vp_in x5 16)) 6 rfl ⟨⟨trivial, (b37 c1 c2 c3 c13 c14 c16 c18 c20)⟩, (b37 c1 c2 c3 c13 c14 c16 c18 c20)⟩ ?_
                  refine WX.if_ne (off := 8) (tgt := 225) rfl rfl (fun c21 => ?_) (fun c21 => ?_)
                  · refine WX.run (pc' := 91) (L' := [some (.ref 37), some (.int x1), some (.int x2), some (.int x3), some (.int 1), some (.int x5), some (.int (x6 + 1)), some (.int (z_M_beside_37 M x5 x6)), some (.int 0)]) (st' := []) (M' := (wr M 54 x5.toNatClampNeg (M.1 54 x5.toNatClampNeg))) (P := True) 5 rfl trivial ?_
                    refine WX.forget2 (L' := [some (.ref 37), some (.int x1), some (.int x2), some (.int x3), some (.int 1), some (.int x5), some (.int (x6 + 1)), none, none]) ?_ ⟨Or.inr rfl, Or.inr rfl, Or.inr rfl, Or.inr rfl, Or.inr rfl, Or.inr rfl, Or.inr rfl, Or.inl rfl, Or.inl rfl, trivial⟩
                    exact (h38 c1 c2 c3 c13 c14 c16 c18 c20 c21)
                  · refine WX.run (pc' := 222) (L' := [some (.ref 37), some (.int x1), some (.int x2), some (.int x3), some (.int x4), some (.int x5), some (.int x6), some (.int (z_M_beside_37 M x5 x6)), some (.int 0)]) (st' := [.int 0]) (M' := (wr M 54 x5.toNatClampNeg (M.1 54 x5.toNatClampNeg))) (P := True) 1 rfl trivial ?_
                    refine WX.if_eq (off := 7) (tgt := 229) rfl rfl (fun _ => ?_) (fun c => absurd (by decide) c)
                    refine WX.run (pc' := 91) (L' := [some (.ref 37), some (.int x1), some (.int x2), some (.int x3), some (.int 0), some (.int x5), some (.int (x6 + 1)), some (.int (z_M_beside_37 M x5 x6)), some (.int 0)]) (st' := []) (M' := (wr M 54 x5.toNatClampNeg (M.1 54 x5.toNatClampNeg))) (P := True) 4 rfl trivial ?_
                    refine WX.forget2 (L' := [some (.ref 37), some (.int x1), some (.int x2), some (.int x3), some (.int 0), some (.int x5), some (.int (x6 + 1)), none, none]) ?_ ⟨Or.inr rfl, Or.inr rfl, Or.inr rfl, Or.inr rfl, Or.inr rfl, Or.inr rfl, Or.inr rfl, Or.inl rfl, Or.inl rfl, trivial⟩
                    exact (h39 c1 c2 c3 c13 c14 c16 c18 c20 c21)
                · refine WX.run (pc' := 192) (L' := [some (.ref 37), some (.int x1), some (.int x2), some (.int x3), some (.int x4), some (.int x5), some (.int x6), some (.int (z_M_beside_37 M x5 x6)), some (.int 1)]) (st' := [.int 1, .int x5, .ref 54]) (M' := M) (P := True) 7 rfl trivial ?_
                  refine WX.if_eq (off := 15) (tgt := 207) rfl rfl (fun c => absurd c (by decide)) (fun _ => ?_)
                  refine WX.run (pc' := 217) (L' := [some (.ref 37), some (.int x1), some (.int x2), some (.int x3), some (.int x4), some (.int x5), some (.int x6), some (.int (z_M_beside_37 M x5 x6)), some (.int 1)]) (st' := [.int x4]) (M' := (wr M 54 x5.toNatClampNeg ((M.1 54 (z_M_beside_37 M x5 x6).toNatClampNeg) + 1))) (P := ((True ∧ vp_in (z_M_beside_37 M x5 x6) 16) ∧ vp_in x5 16)) 9 rfl ⟨⟨trivial, (b40 c1 c2 c3 c13 c14 c16 c18 c20)⟩, (b41 c1 c2 c3 c13 c14 c16 c18 c20)⟩ ?_
                  refine WX.if_ne (off := 8) (tgt := 225) rfl rfl (fun c22 => ?_) (fun c22 => ?_)
                  · refine WX.run (pc' := 91) (L' := [some (.ref 37), some (.int x1), some (.int x2), some (.int x3), some (.int 1), some (.int x5), some (.int (x6 + 1)), some (.int (z_M_beside_37 M x5 x6)), some (.int 1)]) (st' := []) (M' := (wr M 54 x5.toNatClampNeg ((M.1 54 (z_M_beside_37 M x5 x6).toNatClampNeg) + 1))) (P := True) 5 rfl trivial ?_
                    refine WX.forget2 (L' := [some (.ref 37), some (.int x1), some (.int x2), some (.int x3), some (.int 1), some (.int x5), some (.int (x6 + 1)), none, none]) ?_ ⟨Or.inr rfl, Or.inr rfl, Or.inr rfl, Or.inr rfl, Or.inr rfl, Or.inr rfl, Or.inr rfl, Or.inl rfl, Or.inl rfl, trivial⟩
                    exact (h42 c1 c2 c3 c13 c14 c16 c18 c20 c22)
                  · refine WX.run (pc' := 222) (L' := [some (.ref 37), some (.int x1), some (.int x2), some (.int x3), some (.int x4), some (.int x5), some (.int x6), some (.int (z_M_beside_37 M x5 x6)), some (.int 1)]) (st' := [.int 1]) (M' := (wr M 54 x5.toNatClampNeg ((M.1 54 (z_M_beside_37 M x5 x6).toNatClampNeg) + 1))) (P := True) 1 rfl trivial ?_
                    refine WX.if_eq (off := 7) (tgt := 229) rfl rfl (fun c => absurd c (by decide)) (fun _ => ?_)
                    refine WX.run (pc' := 91) (L' := [some (.ref 37), some (.int x1), some (.int x2), some (.int x3), some (.int 1), some (.int x5), some (.int (x6 + 1)), some (.int (z_M_beside_37 M x5 x6)), some (.int 1)]) (st' := []) (M' := (wr M 54 x5.toNatClampNeg ((M.1 54 (z_M_beside_37 M x5 x6).toNatClampNeg) + 1))) (P := True) 5 rfl trivial ?_
                    refine WX.forget2 (L' := [some (.ref 37), some (.int x1), some (.int x2), some (.int x3), some (.int 1), some (.int x5), some (.int (x6 + 1)), none, none]) ?_ ⟨Or.inr rfl, Or.inr rfl, Or.inr rfl, Or.inr rfl, Or.inr rfl, Or.inr rfl, Or.inr rfl, Or.inl rfl, Or.inl rfl, trivial⟩
                    exact (h43 c1 c2 c3 c13 c14 c16 c18 c20 c22)
theorem sg_M_odds_37_0 {Q : Option Value → Mem → Prop} (M : Mem) (x1 x2 x3 x4 : Int32)
    (h1 : (z_M_in x1 0 10) = 0 → Q (some (.int (-1))) M)
    (h2 : ¬ (z_M_in x1 0 10) = 0 → (z_M_in x2 0 6) = 0 → Q (some (.int (-1))) M)
    (h3 : ¬ (z_M_in x1 0 10) = 0 → ¬ (z_M_in x2 0 6) = 0 → (z_M_in x3 0 6) = 0 → Q (some (.int (-1))) M)
    (h4 : ¬ (z_M_in x1 0 10) = 0 → ¬ (z_M_in x2 0 6) = 0 → ¬ (z_M_in x3 0 6) = 0 → ¬ (z_M_in x4 0 1) = 0 → WX mi_M_odds 2 Q 51 [some (.ref 37), some (.int x1), some (.int x2), some (.int x3), some (.int x4), some (.int 0), some (.int 1), some (.int 0), none, none] [] M)
    (h5 : ¬ (z_M_in x1 0 10) = 0 → ¬ (z_M_in x2 0 6) = 0 → ¬ (z_M_in x3 0 6) = 0 → (z_M_in x4 0 1) = 0 → Q (some (.int (-1))) M) :
    WX mi_M_odds 2 Q 0 [some (.ref 37), some (.int x1), some (.int x2), some (.int x3), some (.int x4), none, none, none, none, none] [] M := by
  refine WX.run (pc' := 4) (L' := [some (.ref 37), some (.int x1), some (.int x2), some (.int x3), some (.int x4), none, none, none, none, none]) (st' := [.int 10, .int 0, .int x1]) (M' := M) (P := True) 3 rfl trivial ?_
  refine WX.callS (ca := mi_M_in) (n := 3) (d' := 1) (st := []) (As := [.int x1, .int 0, .int 10]) rfl lk_7_72 ck_M_in cs_M_in rfl (by decide) rfl (Nat.le_of_ble_eq_true rfl) (by intro w hw; simp only [List.mem_cons, List.not_mem_nil, or_false] at hw; rcases hw with rfl | rfl | rfl <;> rfl) (Nat.le_of_ble_eq_true rfl) ?_
  refine wx_M_in M x1 0 10 ?_
  show WX mi_M_odds 2 Q 7 [some (.ref 37), some (.int x1), some (.int x2), some (.int x3), some (.int x4), none, none, none, none, none] [.int (z_M_in x1 0 10)] M
  refine WX.if_eq (off := 33) (tgt := 40) rfl rfl (fun c1 => ?_) (fun c1 => ?_)
  · refine WX.run (pc' := 41) (L' := [some (.ref 37), some (.int x1), some (.int x2), some (.int x3), some (.int x4), none, none, none, none, none]) (st' := [.int (-1)]) (M' := M) (P := True) 1 rfl trivial ?_
    exact WX.iret rfl rfl (h1 c1)
  · refine WX.run (pc' := 14) (L' := [some (.ref 37), some (.int x1), some (.int x2), some (.int x3), some (.int x4), none, none, none, none, none]) (st' := [.int 6, .int 0, .int x2]) (M' := M) (P := True) 3 rfl trivial ?_
    refine WX.callS (ca := mi_M_in) (n := 3) (d' := 1) (st := []) (As := [.int x2, .int 0, .int 6]) rfl lk_7_72 ck_M_in cs_M_in rfl (by decide) rfl (Nat.le_of_ble_eq_true rfl) (by intro w hw; simp only [List.mem_cons, List.not_mem_nil, or_false] at hw; rcases hw with rfl | rfl | rfl <;> rfl) (Nat.le_of_ble_eq_true rfl) ?_
    refine wx_M_in M x2 0 6 ?_
    show WX mi_M_odds 2 Q 17 [some (.ref 37), some (.int x1), some (.int x2), some (.int x3), some (.int x4), none, none, none, none, none] [.int (z_M_in x2 0 6)] M
    refine WX.if_eq (off := 23) (tgt := 40) rfl rfl (fun c2 => ?_) (fun c2 => ?_)
    · refine WX.run (pc' := 41) (L' := [some (.ref 37), some (.int x1), some (.int x2), some (.int x3), some (.int x4), none, none, none, none, none]) (st' := [.int (-1)]) (M' := M) (P := True) 1 rfl trivial ?_
      exact WX.iret rfl rfl (h2 c1 c2)
    · refine WX.run (pc' := 24) (L' := [some (.ref 37), some (.int x1), some (.int x2), some (.int x3), some (.int x4), none, none, none, none, none]) (st' := [.int 6, .int 0, .int x3]) (M' := M) (P := True) 3 rfl trivial ?_
      refine WX.callS (ca := mi_M_in) (n := 3) (d' := 1) (st := []) (As := [.int x3, .int 0, .int 6]) rfl lk_7_72 ck_M_in cs_M_in rfl (by decide) rfl (Nat.le_of_ble_eq_true rfl) (by intro w hw; simp only [List.mem_cons, List.not_mem_nil, or_false] at hw; rcases hw with rfl | rfl | rfl <;> rfl) (Nat.le_of_ble_eq_true rfl) ?_
      refine wx_M_in M x3 0 6 ?_
      show WX mi_M_odds 2 Q 27 [some (.ref 37), some (.int x1), some (.int x2), some (.int x3), some (.int x4), none, none, none, none, none] [.int (z_M_in x3 0 6)] M
      refine WX.if_eq (off := 13) (tgt := 40) rfl rfl (fun c3 => ?_) (fun c3 => ?_)
      · refine WX.run (pc' := 41) (L' := [some (.ref 37), some (.int x1), some (.int x2), some (.int x3), some (.int x4), none, none, none, none, none]) (st' := [.int (-1)]) (M' := M) (P := True) 1 rfl trivial ?_
        exact WX.iret rfl rfl (h3 c1 c2 c3)
      · refine WX.run (pc' := 34) (L' := [some (.ref 37), some (.int x1), some (.int x2), some (.int x3), some (.int x4), none, none, none, none, none]) (st' := [.int 1, .int 0, .int x4]) (M' := M) (P := True) 3 rfl trivial ?_
        refine WX.callS (ca := mi_M_in) (n := 3) (d' := 1) (st := []) (As := [.int x4, .int 0, .int 1]) rfl lk_7_72 ck_M_in cs_M_in rfl (by decide) rfl (Nat.le_of_ble_eq_true rfl) (by intro w hw; simp only [List.mem_cons, List.not_mem_nil, or_false] at hw; rcases hw with rfl | rfl | rfl <;> rfl) (Nat.le_of_ble_eq_true rfl) ?_
        refine wx_M_in M x4 0 1 ?_
        show WX mi_M_odds 2 Q 37 [some (.ref 37), some (.int x1), some (.int x2), some (.int x3), some (.int x4), none, none, none, none, none] [.int (z_M_in x4 0 1)] M
        refine WX.if_ne (off := 5) (tgt := 42) rfl rfl (fun c4 => ?_) (fun c4 => ?_)
        · refine WX.run (pc' := 51) (L' := [some (.ref 37), some (.int x1), some (.int x2), some (.int x3), some (.int x4), some (.int 0), some (.int 1), some (.int 0), none, none]) (st' := []) (M' := M) (P := True) 6 rfl trivial ?_
          exact (h4 c1 c2 c3 c4)
        · refine WX.run (pc' := 41) (L' := [some (.ref 37), some (.int x1), some (.int x2), some (.int x3), some (.int x4), none, none, none, none, none]) (st' := [.int (-1)]) (M' := M) (P := True) 1 rfl trivial ?_
          exact WX.iret rfl rfl (h5 c1 c2 c3 c4)
theorem sg_M_odds_37_51 {Q : Option Value → Mem → Prop} (M : Mem) (x1 x2 x3 x4 x5 x6 x7 : Int32)
    (h1 : (shl 1 x2) ≤ x7 → WX mi_M_odds 2 Q 130 [some (.ref 37), some (.int x1), some (.int x2), some (.int x3), some (.int x4), some (.int x5), some (.int x6), some (.int 0), none, none] [] M)
    (h2 : ¬ (shl 1 x2) ≤ x7 → WX mi_M_manyOf 1 (fun rv M' => WX mi_M_odds 2 Q 64 [some (.ref 37), some (.int x1), some (.int x2), some (.int x3), some (.int x4), some (.int x5), some (.int x6), some (.int x7), none, none] (rv.toList ++ []) M') 0 [some (.int x7), none, none] [] M) :
    WX mi_M_odds 2 Q 51 [some (.ref 37), some (.int x1), some (.int x2), some (.int x3), some (.int x4), some (.int x5), some (.int x6), some (.int x7), none, none] [] M := by
  refine WX.run (pc' := 56) (L' := [some (.ref 37), some (.int x1), some (.int x2), some (.int x3), some (.int x4), some (.int x5), some (.int x6), some (.int x7), none, none]) (st' := [.int (shl 1 x2), .int x7]) (M' := M) (P := True) 4 rfl trivial ?_
  refine WX.icmp_ge (off := 71) (tgt := 127) rfl rfl (fun c1 => ?_) (fun c1 => ?_)
  · refine WX.run (pc' := 130) (L' := [some (.ref 37), some (.int x1), some (.int x2), some (.int x3), some (.int x4), some (.int x5), some (.int x6), some (.int 0), none, none]) (st' := []) (M' := M) (P := True) 2 rfl trivial ?_
    exact (h1 c1)
  · refine WX.run (pc' := 61) (L' := [some (.ref 37), some (.int x1), some (.int x2), some (.int x3), some (.int x4), some (.int x5), some (.int x6), some (.int x7), none, none]) (st' := [.int x7]) (M' := M) (P := True) 1 rfl trivial ?_
    refine WX.callS (ca := mi_M_manyOf) (n := 1) (d' := 1) (st := []) (As := [.int x7]) rfl lk_7_206 ck_M_manyOf cs_M_manyOf rfl (by decide) rfl (Nat.le_of_ble_eq_true rfl) (by intro w hw; simp only [List.mem_cons, List.not_mem_nil, or_false] at hw; rcases hw with rfl <;> rfl) (Nat.le_of_ble_eq_true rfl) ?_
    exact (h2 c1)
theorem sg_M_odds_37_130 {Q : Option Value → Mem → Prop} (M : Mem) (x1 x2 x3 x4 x5 x6 x7 : Int32)
    (h1 : x2 ≤ x7 → WX mi_M_odds 2 Q 157 [some (.ref 37), some (.int x1), some (.int x2), some (.int x3), some (.int x4), some (.int x5), some (.int x6), some (.int x5), some (.int x6), none] [] M)
    (h2 : ¬ x2 ≤ x7 → WX mi_M_odds 2 Q 130 [some (.ref 37), some (.int x1), some (.int x2), some (.int x3), some (.int x4), some (.int x5), some (.int (x6 * 10)), some (.int (x7 + 1)), none, none] [] M) :
    WX mi_M_odds 2 Q 130 [some (.ref 37), some (.int x1), some (.int x2), some (.int x3), some (.int x4), some (.int x5), some (.int x6), some (.int x7), none, none] [] M := by
  refine WX.run (pc' := 133) (L' := [some (.ref 37), some (.int x1), some (.int x2), some (.int x3), some (.int x4), some (.int x5), some (.int x6), some (.int x7), none, none]) (st' := [.int x2, .int x7]) (M' := M) (P := True) 2 rfl trivial ?_
  refine WX.icmp_ge (off := 16) (tgt := 149) rfl rfl (fun c1 => ?_) (fun c1 => ?_)
  · refine WX.run (pc' := 157) (L' := [some (.ref 37), some (.int x1), some (.int x2), some (.int x3), some (.int x4), some (.int x5), some (.int x6), some (.int x5), some (.int x6), none]) (st' := []) (M' := M) (P := True) 4 rfl trivial ?_
    exact (h1 c1)
  · refine WX.run (pc' := 130) (L' := [some (.ref 37), some (.int x1), some (.int x2), some (.int x3), some (.int x4), some (.int x5), some (.int (x6 * 10)), some (.int (x7 + 1)), none, none]) (st' := []) (M' := M) (P := True) 6 rfl trivial ?_
    exact (h2 c1)
theorem sg_M_odds_37_64 {Q : Option Value → Mem → Prop} (M : Mem) (x1 x2 x3 x4 x5 x6 x7 r : Int32)
    (h1 : r < x3 → WX mi_M_odds 2 Q 78 [some (.ref 37), some (.int x1), some (.int x2), some (.int x3), some (.int x4), some (.int x5), some (.int x6), some (.int x7), some (.int 0), some (.int 0)] [] M)
    (h2 : ¬ r < x3 → WX mi_M_odds 2 Q 78 [some (.ref 37), some (.int x1), some (.int x2), some (.int x3), some (.int x4), some (.int x5), some (.int x6), some (.int x7), some (.int 1), some (.int 0)] [] M) :
    WX mi_M_odds 2 Q 64 [some (.ref 37), some (.int x1), some (.int x2), some (.int x3), some (.int x4), some (.int x5), some (.int x6), some (.int x7), none, none] [.int r] M := by
  refine WX.run (pc' := 65) (L' := [some (.ref 37), some (.int x1), some (.int x2), some (.int x3), some (.int x4), some (.int x5), some (.int x6), some (.int x7), none, none]) (st' := [.int x3, .int r]) (M' := M) (P := True) 1 rfl trivial ?_
  refine WX.icmp_lt (off := 7) (tgt := 72) rfl rfl (fun c1 => ?_) (fun c1 => ?_)
  · refine WX.run (pc' := 78) (L' := [some (.ref 37), some (.int x1), some (.int x2), some (.int x3), some (.int x4), some (.int x5), some (.int x6), some (.int x7), some (.int 0), some (.int 0)]) (st' := []) (M' := M) (P := True) 4 rfl trivial ?_
    exact (h1 c1)
  · refine WX.run (pc' := 78) (L' := [some (.ref 37), some (.int x1), some (.int x2), some (.int x3), some (.int x4), some (.int x5), some (.int x6), some (.int x7), some (.int 1), some (.int 0)]) (st' := []) (M' := M) (P := True) 5 rfl trivial ?_
    exact (h2 c1)
theorem sg_M_odds_37_157 {Q : Option Value → Mem → Prop} (M : Mem) (x1 x2 x3 x4 x5 x6 x7 x8 : Int32)
    (b1 : x8 = 0 → ¬ x4 = 0 → ¬ x7 = 0)
    (h2 : x8 = 0 → ¬ x4 = 0 → Q (some (.int (x6 / x7))) M)
    (b3 : x8 = 0 → x4 = 0 → ¬ x7 = 0)
    (h4 : x8 = 0 → x4 = 0 → Q (some (.int (x5 / x7))) M)
    (b5 : ¬ x8 = 0 → ¬ x8 = 0)
    (h6 : ¬ x8 = 0 → WX mi_M_odds 2 Q 157 [some (.ref 37), some (.int x1), some (.int x2), some (.int x3), some (.int x4), some (.int x5), some (.int x6), some (.int x8), some (.int (rem x7 x8)), none] [] M) :
    WX mi_M_odds 2 Q 157 [some (.ref 37), some (.int x1), some (.int x2), some (.int x3), some (.int x4), some (.int x5), some (.int x6), some (.int x7), some (.int x8), none] [] M := by
  refine WX.run (pc' := 159) (L' := [some (.ref 37), some (.int x1), some (.int x2), some (.int x3), some (.int x4), some (.int x5), some (.int x6), some (.int x7), some (.int x8), none]) (st' := [.int x8]) (M' := M) (P := True) 1 rfl trivial ?_
  refine WX.if_eq (off := 21) (tgt := 180) rfl rfl (fun c1 => ?_) (fun c1 => ?_)
  · refine WX.run (pc' := 182) (L' := [some (.ref 37), some (.int x1), some (.int x2), some (.int x3), some (.int x4), some (.int x5), some (.int x6), some (.int x7), some (.int x8), none]) (st' := [.int x4]) (M' := M) (P := True) 1 rfl trivial ?_
    refine WX.if_ne (off := 11) (tgt := 193) rfl rfl (fun c2 => ?_) (fun c2 => ?_)
    · refine WX.run (pc' := 198) (L' := [some (.ref 37), some (.int x1), some (.int x2), some (.int x3), some (.int x4), some (.int x5), some (.int x6), some (.int x7), some (.int x8), none]) (st' := [.int (x6 / x7)]) (M' := M) (P := (True ∧ ¬ x7 = 0)) 3 rfl ⟨trivial, (b1 c1 c2)⟩ ?_
      exact WX.iret rfl rfl (h2 c1 c2)
    · refine WX.run (pc' := 198) (L' := [some (.ref 37), some (.int x1), some (.int x2), some (.int x3), some (.int x4), some (.int x5), some (.int x6), some (.int x7), some (.int x8), none]) (st' := [.int (x5 / x7)]) (M' := M) (P := (True ∧ ¬ x7 = 0)) 4 rfl ⟨trivial, (b3 c1 c2)⟩ ?_
      exact WX.iret rfl rfl (h4 c1 c2)
  · refine WX.run (pc' := 157) (L' := [some (.ref 37), some (.int x1), some (.int x2), some (.int x3), some (.int x4), some (.int x5), some (.int x6), some (.int x8), some (.int (rem x7 x8)), some (.int (rem x7 x8))]) (st' := []) (M' := M) (P := (True ∧ ¬ x8 = 0)) 9 rfl ⟨trivial, (b5 c1)⟩ ?_
    refine WX.forget2 (L' := [some (.ref 37), some (.int x1), some (.int x2), some (.int x3), some (.int x4), some (.int x5), some (.int x6), some (.int x8), some (.int (rem x7 x8)), none]) ?_ ⟨Or.inr rfl, Or.inr rfl, Or.inr rfl, Or.inr rfl, Or.inr rfl, Or.inr rfl, Or.inr rfl, Or.inr rfl, Or.inr rfl, Or.inl rfl, trivial⟩
    exact (h6 c1)
theorem sg_M_odds_37_78 {Q : Option Value → Mem → Prop} (M : Mem) (x1 x2 x3 x4 x5 x6 x7 x8 x9 : Int32)
    (h1 : x2 ≤ x9 → WX mi_M_odds 2 Q 51 [some (.ref 37), some (.int x1), some (.int x2), some (.int x3), some (.int x4), some (.int (x5 + x8)), some (.int x6), some (.int (x7 + 1)), none, none] [] M)
    (h2 : ¬ x2 ≤ x9 → ¬ ((shr x7 x9) &&& 1) = 1 → WX mi_M_odds 2 Q 78 [some (.ref 37), some (.int x1), some (.int x2), some (.int x3), some (.int x4), some (.int x5), some (.int x6), some (.int x7), some (.int (x8 * x1)), some (.int (x9 + 1))] [] M)
    (h3 : ¬ x2 ≤ x9 → ((shr x7 x9) &&& 1) = 1 → WX mi_M_odds 2 Q 78 [some (.ref 37), some (.int x1), some (.int x2), some (.int x3), some (.int x4), some (.int x5), some (.int x6), some (.int x7), some (.int (x8 * (10 - x1))), some (.int (x9 + 1))] [] M) :
    WX mi_M_odds 2 Q 78 [some (.ref 37), some (.int x1), some (.int x2), some (.int x3), some (.int x4), some (.int x5), some (.int x6), some (.int x7), some (.int x8), some (.int x9)] [] M := by
  refine WX.run (pc' := 81) (L' := [some (.ref 37), some (.int x1), some (.int x2), some (.int x3), some (.int x4), some (.int x5), some (.int x6), some (.int x7), some (.int x8), some (.int x9)]) (st' := [.int x2, .int x9]) (M' := M) (P := True) 2 rfl trivial ?_
  refine WX.icmp_ge (off := 33) (tgt := 114) rfl rfl (fun c1 => ?_) (fun c1 => ?_)
  · refine WX.run (pc' := 51) (L' := [some (.ref 37), some (.int x1), some (.int x2), some (.int x3), some (.int x4), some (.int (x5 + x8)), some (.int x6), some (.int (x7 + 1)), some (.int x8), some (.int x9)]) (st' := []) (M' := M) (P := True) 6 rfl trivial ?_
    refine WX.forget2 (L' := [some (.ref 37), some (.int x1), some (.int x2), some (.int x3), some (.int x4), some (.int (x5 + x8)), some (.int x6), some (.int (x7 + 1)), none, none]) ?_ ⟨Or.inr rfl, Or.inr rfl, Or.inr rfl, Or.inr rfl, Or.inr rfl, Or.inr rfl, Or.inr rfl, Or.inr rfl, Or.inl rfl, Or.inl rfl, trivial⟩
    exact (h1 c1)
  · refine WX.run (pc' := 94) (L' := [some (.ref 37), some (.int x1), some (.int x2), some (.int x3), some (.int x4), some (.int x5), some (.int x6), some (.int x7), some (.int x8), some (.int x9)]) (st' := [.int 1, .int ((shr x7 x9) &&& 1), .int x8]) (M' := M) (P := True) 7 rfl trivial ?_
    refine WX.icmp_ne (off := 10) (tgt := 104) rfl rfl (fun c2 => ?_) (fun c2 => ?_)
    · refine WX.run (pc' := 78) (L' := [some (.ref 37), some (.int x1), some (.int x2), some (.int x3), some (.int x4), some (.int x5), some (.int x6), some (.int x7), some (.int (x8 * x1)), some (.int (x9 + 1))]) (st' := []) (M' := M) (P := True) 5 rfl trivial ?_
      exact (h2 c1 c2)
    · refine WX.run (pc' := 78) (L' := [some (.ref 37), some (.int x1), some (.int x2), some (.int x3), some (.int x4), some (.int x5), some (.int x6), some (.int x7), some (.int (x8 * (10 - x1))), some (.int (x9 + 1))]) (st' := []) (M' := M) (P := True) 8 rfl trivial ?_
      exact (h3 c1 c2)
theorem sg_M_saw_37_0 {Q : Option Value → Mem → Prop} (M : Mem) (x1 x2 : Int32)
    (b1 : ¬ (z_M_isDryAt_37 M x1 x2) = 0 → ¬ (M.1 37 29) = 6 → vp_in (M.1 37 29) 6)
    (h2 : ¬ (z_M_isDryAt_37 M x1 x2) = 0 → ¬ (M.1 37 29) = 6 → Q (some (.int ((M.1 37 29) + 1))) (wr (wr M 55 (M.1 37 29).toNatClampNeg ((4 * x2) + x1)) 37 29 ((M.1 37 29) + 1)))
    (h3 : ¬ (z_M_isDryAt_37 M x1 x2) = 0 → (M.1 37 29) = 6 → Q (some (.int (-3))) M)
    (h4 : (z_M_isDryAt_37 M x1 x2) = 0 → Q (some (.int (-1))) M) :
    WX mi_M_saw 4 Q 0 [some (.ref 37), some (.int x1), some (.int x2)] [] M := by
  refine WX.run (pc' := 3) (L' := [some (.ref 37), some (.int x1), some (.int x2)]) (st' := [.int x2, .int x1, .ref 37]) (M' := M) (P := True) 3 rfl trivial ?_
  refine WX.callV (ca := mi_M_isDryAt) (n := 2) (d' := 3) (st := []) (As := [.int x1, .int x2]) (q := 37) rfl lk_7_200 ck_M_isDryAt cv_M_isDryAt rfl (by decide) rfl (Nat.le_of_ble_eq_true rfl) ⟨by decide, rfl, by decide⟩ (by intro w hw; simp only [List.mem_cons, List.not_mem_nil, or_false] at hw; rcases hw with rfl | rfl <;> rfl) (Nat.le_of_ble_eq_true rfl) ?_
  refine wx_M_isDryAt_37 M x1 x2 ?_
  show WX mi_M_saw 4 Q 6 [some (.ref 37), some (.int x1), some (.int x2)] [.int (z_M_isDryAt_37 M x1 x2)] M
  refine WX.if_ne (off := 5) (tgt := 11) rfl rfl (fun c1 => ?_) (fun c1 => ?_)
  · refine WX.run (pc' := 17) (L' := [some (.ref 37), some (.int x1), some (.int x2)]) (st' := [.int 6, .int (M.1 37 29)]) (M' := M) (P := True) 3 rfl trivial ?_
    refine WX.icmp_ne (off := 6) (tgt := 23) rfl rfl (fun c2 => ?_) (fun c2 => ?_)
    · refine WX.run (pc' := 51) (L' := [some (.ref 37), some (.int x1), some (.int x2)]) (st' := [.int ((M.1 37 29) + 1)]) (M' := (wr (wr M 55 (M.1 37 29).toNatClampNeg ((4 * x2) + x1)) 37 29 ((M.1 37 29) + 1))) (P := (True ∧ vp_in (M.1 37 29) 6)) 18 rfl ⟨trivial, (b1 c1 c2)⟩ ?_
      exact WX.iret rfl rfl (h2 c1 c2)
    · refine WX.run (pc' := 22) (L' := [some (.ref 37), some (.int x1), some (.int x2)]) (st' := [.int (-3)]) (M' := M) (P := True) 1 rfl trivial ?_
      exact WX.iret rfl rfl (h3 c1 c2)
  · refine WX.run (pc' := 10) (L' := [some (.ref 37), some (.int x1), some (.int x2)]) (st' := [.int (-1)]) (M' := M) (P := True) 1 rfl trivial ?_
    exact WX.iret rfl rfl (h4 c1)
theorem sg_M_forget_37_0 {Q : Option Value → Mem → Prop} (M : Mem)
    (h1 : Q (some (.int (M.1 37 29))) (wr M 37 29 0)) :
    WX mi_M_forget 1 Q 0 [some (.ref 37), none] [] M := by
  refine WX.run (pc' := 11) (L' := [some (.ref 37), some (.int (M.1 37 29))]) (st' := [.int (M.1 37 29)]) (M' := (wr M 37 29 0)) (P := True) 7 rfl trivial ?_
  exact WX.iret rfl rfl h1
theorem sg_M_from_37_0 {Q : Option Value → Mem → Prop} (M : Mem)
    (h1 : WX mi_M_from 6 Q 4 [some (.ref 37), some (.int 0), some (.int 0), none, none, none] [] M) :
    WX mi_M_from 6 Q 0 [some (.ref 37), none, none, none, none, none] [] M := by
  refine WX.run (pc' := 4) (L' := [some (.ref 37), some (.int 0), some (.int 0), none, none, none]) (st' := []) (M' := M) (P := True) 4 rfl trivial ?_
  exact h1
theorem sg_M_from_37_4 {Q : Option Value → Mem → Prop} (M : Mem) (x1 x2 : Int32)
    (h1 : 16 ≤ x2 → Q (some (.int x1)) M)
    (b2 : ¬ 16 ≤ x2 → ((z_M_isCell_37 M (rem x2 4) (x2 / 4)) = 0 ∨ (z_M_isCell_37 M (rem x2 4) (x2 / 4)) = 1))
    (h3 : ¬ 16 ≤ x2 → (z_M_isDry_37 M x2) = 0 → WX mi_M_from 6 Q 34 [some (.ref 37), some (.int x1), some (.int x2), some (.int (z_M_isDry_37 M x2)), some (.int 0), some (.int 0)] [] M)
    (h4 : ¬ 16 ≤ x2 → ¬ (z_M_isDry_37 M x2) = 0 → WX mi_M_wayOf 5 (fun rv M' => WX mi_M_from 6 Q 25 [some (.ref 37), some (.int x1), some (.int x2), some (.int (z_M_isDry_37 M x2)), none, none] (rv.toList ++ []) M') 0 [some (.ref 37), some (.int x2), none, none] [] M) :
    WX mi_M_from 6 Q 4 [some (.ref 37), some (.int x1), some (.int x2), none, none, none] [] M := by
  refine WX.run (pc' := 7) (L' := [some (.ref 37), some (.int x1), some (.int x2), none, none, none]) (st' := [.int 16, .int x2]) (M' := M) (P := True) 2 rfl trivial ?_
  refine WX.icmp_ge (off := 88) (tgt := 95) rfl rfl (fun c1 => ?_) (fun c1 => ?_)
  · refine WX.run (pc' := 96) (L' := [some (.ref 37), some (.int x1), some (.int x2), none, none, none]) (st' := [.int x1]) (M' := M) (P := True) 1 rfl trivial ?_
    exact WX.iret rfl rfl (h1 c1)
  · refine WX.run (pc' := 12) (L' := [some (.ref 37), some (.int x1), some (.int x2), none, none, none]) (st' := [.int x2, .ref 37]) (M' := M) (P := True) 2 rfl trivial ?_
    refine WX.callV (ca := mi_M_isDry) (n := 1) (d' := 4) (st := []) (As := [.int x2]) (q := 37) rfl lk_7_184 ck_M_isDry cv_M_isDry rfl (by decide) rfl (Nat.le_of_ble_eq_true rfl) ⟨by decide, rfl, by decide⟩ (by intro w hw; simp only [List.mem_cons, List.not_mem_nil, or_false] at hw; rcases hw with rfl <;> rfl) (Nat.le_of_ble_eq_true rfl) ?_
    refine wx_M_isDry_37 M x2 (b2 c1) ?_
    show WX mi_M_from 6 Q 15 [some (.ref 37), some (.int x1), some (.int x2), none, none, none] [.int (z_M_isDry_37 M x2)] M
    refine WX.run (pc' := 17) (L' := [some (.ref 37), some (.int x1), some (.int x2), some (.int (z_M_isDry_37 M x2)), none, none]) (st' := [.int (z_M_isDry_37 M x2)]) (M' := M) (P := True) 2 rfl trivial ?_
    refine WX.if_eq (off := 11) (tgt := 28) rfl rfl (fun c2 => ?_) (fun c2 => ?_)
    · refine WX.run (pc' := 34) (L' := [some (.ref 37), some (.int x1), some (.int x2), some (.int (z_M_isDry_37 M x2)), some (.int 0), some (.int 0)]) (st' := []) (M' := M) (P := True) 4 rfl trivial ?_
      exact (h3 c1 c2)
    · refine WX.run (pc' := 22) (L' := [some (.ref 37), some (.int x1), some (.int x2), some (.int (z_M_isDry_37 M x2)), none, none]) (st' := [.int x2, .ref 37]) (M' := M) (P := True) 2 rfl trivial ?_
      refine WX.callV (ca := mi_M_wayOf) (n := 1) (d' := 5) (st := []) (As := [.int x2]) (q := 37) rfl lk_7_221 ck_M_wayOf cv_M_wayOf rfl (by decide) rfl (Nat.le_of_ble_eq_true rfl) ⟨by decide, rfl, by decide⟩ (by intro w hw; simp only [List.mem_cons, List.not_mem_nil, or_false] at hw; rcases hw with rfl <;> rfl) (Nat.le_of_ble_eq_true rfl) ?_
      exact (h4 c1 c2)
theorem sg_M_from_37_34 {Q : Option Value → Mem → Prop} (M : Mem) (x1 x2 x3 x4 x5 : Int32)
    (h1 : (M.1 37 29) ≤ x5 → x3 = 0 → WX mi_M_from 6 Q 4 [some (.ref 37), some (.int (x1 ||| 0)), some (.int (x2 + 1)), none, none, none] [] M)
    (h2 : (M.1 37 29) ≤ x5 → ¬ x3 = 0 → WX mi_M_from 6 Q 4 [some (.ref 37), some (.int (x1 ||| (shl 1 x2))), some (.int (x2 + 1)), none, none, none] [] M)
    (h3 : ¬ (M.1 37 29) ≤ x5 → x3 = 0 → WX mi_M_from 6 Q 34 [some (.ref 37), some (.int x1), some (.int x2), some (.int 0), some (.int x4), some (.int (x5 + 1))] [] M)
    (b4 : ¬ (M.1 37 29) ≤ x5 → ¬ x3 = 0 → vp_in x5 6)
    (h5 : ¬ (M.1 37 29) ≤ x5 → ¬ x3 = 0 → ¬ ((shr x4 (M.1 55 x5.toNatClampNeg)) &&& 1) = 1 → WX mi_M_from 6 Q 34 [some (.ref 37), some (.int x1), some (.int x2), some (.int 0), some (.int x4), some (.int (x5 + 1))] [] M)
    (h6 : ¬ (M.1 37 29) ≤ x5 → ¬ x3 = 0 → ((shr x4 (M.1 55 x5.toNatClampNeg)) &&& 1) = 1 → WX mi_M_from 6 Q 34 [some (.ref 37), some (.int x1), some (.int x2), some (.int 1), some (.int x4), some (.int (x5 + 1))] [] M) :
    WX mi_M_from 6 Q 34 [some (.ref 37), some (.int x1), some (.int x2), some (.int x3), some (.int x4), some (.int x5)] [] M := by
  refine WX.run (pc' := 40) (L' := [some (.ref 37), some (.int x1), some (.int x2), some (.int x3), some (.int x4), some (.int x5)]) (st' := [.int (M.1 37 29), .int x5]) (M' := M) (P := True) 3 rfl trivial ?_
  refine WX.icmp_ge (off := 35) (tgt := 75) rfl rfl (fun c1 => ?_) (fun c1 => ?_)
  · refine WX.run (pc' := 77) (L' := [some (.ref 37), some (.int x1), some (.int x2), some (.int x3), some (.int x4), some (.int x5)]) (st' := [.int x3, .int x1]) (M' := M) (P := True) 2 rfl trivial ?_
    refine WX.if_eq (off := 9) (tgt := 86) rfl rfl (fun c2 => ?_) (fun c2 => ?_)
    · refine WX.run (pc' := 4) (L' := [some (.ref 37), some (.int (x1 ||| 0)), some (.int (x2 + 1)), some (.int x3), some (.int x4), some (.int x5)]) (st' := []) (M' := M) (P := True) 5 rfl trivial ?_
      refine WX.forget2 (L' := [some (.ref 37), some (.int (x1 ||| 0)), some (.int (x2 + 1)), none, none, none]) ?_ ⟨Or.inr rfl, Or.inr rfl, Or.inr rfl, Or.inl rfl, Or.inl rfl, Or.inl rfl, trivial⟩
      exact (h1 c1 c2)
    · refine WX.run (pc' := 4) (L' := [some (.ref 37), some (.int (x1 ||| (shl 1 x2))), some (.int (x2 + 1)), some (.int x3), some (.int x4), some (.int x5)]) (st' := []) (M' := M) (P := True) 8 rfl trivial ?_
      refine WX.forget2 (L' := [some (.ref 37), some (.int (x1 ||| (shl 1 x2))), some (.int (x2 + 1)), none, none, none]) ?_ ⟨Or.inr rfl, Or.inr rfl, Or.inr rfl, Or.inl rfl, Or.inl rfl, Or.inl rfl, trivial⟩
      exact (h2 c1 c2)
  · refine WX.run (pc' := 44) (L' := [some (.ref 37), some (.int x1), some (.int x2), some (.int x3), some (.int x4), some (.int x5)]) (st' := [.int x3]) (M' := M) (P := True) 1 rfl trivial ?_
    refine WX.if_eq (off := 23) (tgt := 67) rfl rfl (fun c3 => ?_) (fun c3 => ?_)
    · refine WX.run (pc' := 34) (L' := [some (.ref 37), some (.int x1), some (.int x2), some (.int 0), some (.int x4), some (.int (x5 + 1))]) (st' := []) (M' := M) (P := True) 4 rfl trivial ?_
      exact (h3 c1 c3)
    · refine WX.run (pc' := 60) (L' := [some (.ref 37), some (.int x1), some (.int x2), some (.int x3), some (.int x4), some (.int x5)]) (st' := [.int 1, .int ((shr x4 (M.1 55 x5.toNatClampNeg)) &&& 1)]) (M' := M) (P := (True ∧ vp_in x5 6)) 9 rfl ⟨trivial, (b4 c1 c3)⟩ ?_
      refine WX.icmp_ne (off := 7) (tgt := 67) rfl rfl (fun c4 => ?_) (fun c4 => ?_)
      · refine WX.run (pc' := 34) (L' := [some (.ref 37), some (.int x1), some (.int x2), some (.int 0), some (.int x4), some (.int (x5 + 1))]) (st' := []) (M' := M) (P := True) 4 rfl trivial ?_
        exact (h5 c1 c3 c4)
      · refine WX.run (pc' := 34) (L' := [some (.ref 37), some (.int x1), some (.int x2), some (.int 1), some (.int x4), some (.int (x5 + 1))]) (st' := []) (M' := M) (P := True) 5 rfl trivial ?_
        exact (h6 c1 c3 c4)
theorem sg_M_from_37_25 {Q : Option Value → Mem → Prop} (M : Mem) (x1 x2 x3 r : Int32)
    (h1 : WX mi_M_from 6 Q 34 [some (.ref 37), some (.int x1), some (.int x2), some (.int x3), some (.int r), some (.int 0)] [] M) :
    WX mi_M_from 6 Q 25 [some (.ref 37), some (.int x1), some (.int x2), some (.int x3), none, none] [.int r] M := by
  refine WX.run (pc' := 34) (L' := [some (.ref 37), some (.int x1), some (.int x2), some (.int x3), some (.int r), some (.int 0)]) (st' := []) (M' := M) (P := True) 4 rfl trivial ?_
  exact h1
theorem sg_M_mark_37_0 {Q : Option Value → Mem → Prop} (M : Mem) (x1 x2 x3 : Int32)
    (h1 : (z_M_in x1 0 5) = 0 → Q (some (.int (-1000000))) M)
    (b2 : ¬ (z_M_in x1 0 5) = 0 → ¬ (z_M_isCell_37 M x2 x3) = 0 → vp_in ((4 * x3) + x2) 1257)
    (h3 : ¬ (z_M_in x1 0 5) = 0 → ¬ (z_M_isCell_37 M x2 x3) = 0 → WX mi_M_mark 4 Q 40 [some (.ref 37), some (.int x1), some (.int x2), some (.int x3), some (.int (M.1 46 ((4 * x3) + x2).toNatClampNeg)), some (.int (M.1 46 ((4 * x3) + x2).toNatClampNeg)), some (.int 0)] [] M)
    (h4 : ¬ (z_M_in x1 0 5) = 0 → (z_M_isCell_37 M x2 x3) = 0 → Q (some (.int (-1000000))) M) :
    WX mi_M_mark 4 Q 0 [some (.ref 37), some (.int x1), some (.int x2), some (.int x3), none, none, none] [] M := by
  refine WX.run (pc' := 3) (L' := [some (.ref 37), some (.int x1), some (.int x2), some (.int x3), none, none, none]) (st' := [.int 5, .int 0, .int x1]) (M' := M) (P := True) 3 rfl trivial ?_
  refine WX.callS (ca := mi_M_in) (n := 3) (d' := 1) (st := []) (As := [.int x1, .int 0, .int 5]) rfl lk_7_72 ck_M_in cs_M_in rfl (by decide) rfl (Nat.le_of_ble_eq_true rfl) (by intro w hw; simp only [List.mem_cons, List.not_mem_nil, or_false] at hw; rcases hw with rfl | rfl | rfl <;> rfl) (Nat.le_of_ble_eq_true rfl) ?_
  refine wx_M_in M x1 0 5 ?_
  show WX mi_M_mark 4 Q 6 [some (.ref 37), some (.int x1), some (.int x2), some (.int x3), none, none, none] [.int (z_M_in x1 0 5)] M
  refine WX.if_eq (off := 12) (tgt := 18) rfl rfl (fun c1 => ?_) (fun c1 => ?_)
  · refine WX.run (pc' := 20) (L' := [some (.ref 37), some (.int x1), some (.int x2), some (.int x3), none, none, none]) (st' := [.int (-1000000)]) (M' := M) (P := True) 1 rfl trivial ?_
    exact WX.iret rfl rfl (h1 c1)
  · refine WX.run (pc' := 12) (L' := [some (.ref 37), some (.int x1), some (.int x2), some (.int x3), none, none, none]) (st' := [.int x3, .int x2, .ref 37]) (M' := M) (P := True) 3 rfl trivial ?_
    refine WX.callV (ca := mi_M_isCell) (n := 2) (d' := 2) (st := []) (As := [.int x2, .int x3]) (q := 37) rfl lk_7_131 ck_M_isCell cv_M_isCell rfl (by decide) rfl (Nat.le_of_ble_eq_true rfl) ⟨by decide, rfl, by decide⟩ (by intro w hw; simp only [List.mem_cons, List.not_mem_nil, or_false] at hw; rcases hw with rfl | rfl <;> rfl) (Nat.le_of_ble_eq_true rfl) ?_
    refine wx_M_isCell_37 M x2 x3 ?_
    show WX mi_M_mark 4 Q 15 [some (.ref 37), some (.int x1), some (.int x2), some (.int x3), none, none, none] [.int (z_M_isCell_37 M x2 x3)] M
    refine WX.if_ne (off := 6) (tgt := 21) rfl rfl (fun c2 => ?_) (fun c2 => ?_)
    · refine WX.run (pc' := 40) (L' := [some (.ref 37), some (.int x1), some (.int x2), some (.int x3), some (.int (M.1 46 ((4 * x3) + x2).toNatClampNeg)), some (.int (M.1 46 ((4 * x3) + x2).toNatClampNeg)), some (.int 0)]) (st' := []) (M' := M) (P := (True ∧ vp_in ((4 * x3) + x2) 1257)) 13 rfl ⟨trivial, (b2 c1 c2)⟩ ?_
      exact (h3 c1 c2)
    · refine WX.run (pc' := 20) (L' := [some (.ref 37), some (.int x1), some (.int x2), some (.int x3), none, none, none]) (st' := [.int (-1000000)]) (M' := M) (P := True) 1 rfl trivial ?_
      exact WX.iret rfl rfl (h4 c1 c2)
theorem sg_M_mark_37_40 {Q : Option Value → Mem → Prop} (M : Mem) (x1 x2 x3 x4 x5 x6 : Int32)
    (h1 : 4 ≤ x6 → x1 = 0 → Q (some (.int x4)) (wrL M 37 ((M.2 37) + 1)))
    (h2 : 4 ≤ x6 → x1 = 1 → Q (some (.int x5)) (wrL M 37 ((M.2 37) + 11)))
    (h3 : 4 ≤ x6 → x1 = 2 → Q (some (.int (x4 - x2))) (wrL M 37 ((M.2 37) + 101)))
    (h4 : 4 ≤ x6 → x1 = 3 → Q (some (.int (2 * x5))) (wrL M 37 ((M.2 37) + 1011)))
    (h5 : 4 ≤ x6 → x1 = 4 → Q (some (.int ((x4 - x2) + x3))) (wrL M 37 ((M.2 37) + 10101)))
    (h6 : 4 ≤ x6 → ¬ x1 = 0 → ¬ x1 = 1 → ¬ x1 = 2 → ¬ x1 = 3 → ¬ x1 = 4 → Q (some (.int (x4 + (M.1 46 37)))) (wrL M 37 ((M.2 37) + 100001)))
    (h7 : ¬ 4 ≤ x6 → ¬ (z_M_beside_37 M ((4 * x3) + x2) x6) = (-9) → WX mi_M_mark 4 Q 40 [some (.ref 37), some (.int x1), some (.int x2), some (.int x3), some (.int x4), some (.int (x5 + 1)), some (.int (x6 + 1))] [] M)
    (h8 : ¬ 4 ≤ x6 → (z_M_beside_37 M ((4 * x3) + x2) x6) = (-9) → WX mi_M_mark 4 Q 40 [some (.ref 37), some (.int x1), some (.int x2), some (.int x3), some (.int x4), some (.int (x5 + 0)), some (.int (x6 + 1))] [] M) :
    WX mi_M_mark 4 Q 40 [some (.ref 37), some (.int x1), some (.int x2), some (.int x3), some (.int x4), some (.int x5), some (.int x6)] [] M := by
  refine WX.run (pc' := 43) (L' := [some (.ref 37), some (.int x1), some (.int x2), some (.int x3), some (.int x4), some (.int x5), some (.int x6)]) (st' := [.int 4, .int x6]) (M' := M) (P := True) 2 rfl trivial ?_
  refine WX.icmp_ge (off := 35) (tgt := 78) rfl rfl (fun c1 => ?_) (fun c1 => ?_)
  · refine WX.run (pc' := 79) (L' := [some (.ref 37), some (.int x1), some (.int x2), some (.int x3), some (.int x4), some (.int x5), some (.int x6)]) (st' := [.int x1]) (M' := M) (P := True) 1 rfl trivial ?_
    by_cases c2 : x1 = 0
    · refine WX.tsw (tgt := 112) rfl (by decide) (by rw [c2]; decide) ?_
      refine WX.run (pc' := 124) (L' := [some (.ref 37), some (.int x1), some (.int x2), some (.int x3), some (.int x4), some (.int x5), some (.int x6)]) (st' := [.int x4]) (M' := (wrL M 37 ((M.2 37) + 1))) (P := True) 7 rfl trivial ?_
      exact WX.iret rfl rfl (h1 c1 c2)
    · skip
      by_cases c3 : x1 = 1
      · refine WX.tsw (tgt := 125) rfl (by decide) (by rw [c3]; decide) ?_
        refine WX.run (pc' := 139) (L' := [some (.ref 37), some (.int x1), some (.int x2), some (.int x3), some (.int x4), some (.int x5), some (.int x6)]) (st' := [.int x5]) (M' := (wrL M 37 ((M.2 37) + 11))) (P := True) 7 rfl trivial ?_
        exact WX.iret rfl rfl (h2 c1 c3)
      · skip
        by_cases c4 : x1 = 2
        · refine WX.tsw (tgt := 140) rfl (by decide) (by rw [c4]; decide) ?_
          refine WX.run (pc' := 156) (L' := [some (.ref 37), some (.int x1), some (.int x2), some (.int x3), some (.int x4), some (.int x5), some (.int x6)]) (st' := [.int (x4 - x2)]) (M' := (wrL M 37 ((M.2 37) + 101))) (P := True) 9 rfl trivial ?_
          exact WX.iret rfl rfl (h3 c1 c4)
        · skip
          by_cases c5 : x1 = 3
          · refine WX.tsw (tgt := 157) rfl (by decide) (by rw [c5]; decide) ?_
            refine WX.run (pc' := 173) (L' := [some (.ref 37), some (.int x1), some (.int x2), some (.int x3), some (.int x4), some (.int x5), some (.int x6)]) (st' := [.int (2 * x5)]) (M' := (wrL M 37 ((M.2 37) + 1011))) (P := True) 9 rfl trivial ?_
            exact WX.iret rfl rfl (h4 c1 c5)
          · skip
            by_cases c6 : x1 = 4
            · refine WX.tsw (tgt := 174) rfl (by decide) (by rw [c6]; decide) ?_
              refine WX.run (pc' := 192) (L' := [some (.ref 37), some (.int x1), some (.int x2), some (.int x3), some (.int x4), some (.int x5), some (.int x6)]) (st' := [.int ((x4 - x2) + x3)]) (M' := (wrL M 37 ((M.2 37) + 10101))) (P := True) 11 rfl trivial ?_
              exact WX.iret rfl rfl (h5 c1 c6)
            · skip
              refine WX.tsw (tgt := 193) rfl (by decide) (by
                    by_cases hr : (x1).toInt < 0 ∨ 4 < (x1).toInt
                    · unfold tswo; rw [if_pos hr]; rfl
                    · have hh : (x1).toInt = 0 ∨ (x1).toInt = 1 ∨ (x1).toInt = 2 ∨ (x1).toInt = 3 ∨ (x1).toInt = 4 := by omega
                      rcases hh with hh | hh | hh | hh | hh
                      · exact absurd hh (i32_ne c2 (by decide))
                      · exact absurd hh (i32_ne c3 (by decide))
                      · exact absurd hh (i32_ne c4 (by decide))
                      · exact absurd hh (i32_ne c5 (by decide))
                      · exact absurd hh (i32_ne c6 (by decide))) ?_
              refine WX.run (pc' := 215) (L' := [some (.ref 37), some (.int x1), some (.int x2), some (.int x3), some (.int x4), some (.int x5), some (.int x6)]) (st' := [.int (x4 + (M.1 46 37))]) (M' := (wrL M 37 ((M.2 37) + 100001))) (P := (True ∧ vp_in 37 1257)) 12 rfl ⟨trivial, (vp_lit rfl)⟩ ?_
              exact WX.iret rfl rfl (h6 c1 c2 c3 c4 c5 c6)
  · refine WX.run (pc' := 56) (L' := [some (.ref 37), some (.int x1), some (.int x2), some (.int x3), some (.int x4), some (.int x5), some (.int x6)]) (st' := [.int x6, .int ((4 * x3) + x2), .ref 37, .int x5]) (M' := M) (P := True) 8 rfl trivial ?_
    refine WX.callV (ca := mi_M_beside) (n := 2) (d' := 3) (st := [.int x5]) (As := [.int ((4 * x3) + x2), .int x6]) (q := 37) rfl lk_7_169 ck_M_beside cv_M_beside rfl (by decide) rfl (Nat.le_of_ble_eq_true rfl) ⟨by decide, rfl, by decide⟩ (by intro w hw; simp only [List.mem_cons, List.not_mem_nil, or_false] at hw; rcases hw with rfl | rfl <;> rfl) (Nat.le_of_ble_eq_true rfl) ?_
    refine wx_M_beside_37 M ((4 * x3) + x2) x6 ?_
    show WX mi_M_mark 4 Q 59 [some (.ref 37), some (.int x1), some (.int x2), some (.int x3), some (.int x4), some (.int x5), some (.int x6)] [.int (z_M_beside_37 M ((4 * x3) + x2) x6), .int x5] M
    refine WX.run (pc' := 61) (L' := [some (.ref 37), some (.int x1), some (.int x2), some (.int x3), some (.int x4), some (.int x5), some (.int x6)]) (st' := [.int (-9), .int (z_M_beside_37 M ((4 * x3) + x2) x6), .int x5]) (M' := M) (P := True) 1 rfl trivial ?_
    refine WX.icmp_ne (off := 7) (tgt := 68) rfl rfl (fun c7 => ?_) (fun c7 => ?_)
    · refine WX.run (pc' := 40) (L' := [some (.ref 37), some (.int x1), some (.int x2), some (.int x3), some (.int x4), some (.int (x5 + 1)), some (.int (x6 + 1))]) (st' := []) (M' := M) (P := True) 5 rfl trivial ?_
      exact (h7 c1 c7)
    · refine WX.run (pc' := 40) (L' := [some (.ref 37), some (.int x1), some (.int x2), some (.int x3), some (.int x4), some (.int (x5 + 0)), some (.int (x6 + 1))]) (st' := []) (M' := M) (P := True) 6 rfl trivial ?_
      exact (h8 c1 c7)
theorem sg_M_keep_37_0 {Q : Option Value → Mem → Prop} (M : Mem) (x1 : Int32)
    (h1 : ¬ (z_M_in x1 0 1) = 0 → WX mi_M_keep 2 Q 13 [some (.ref 37), some (.int x1), some (.int 0)] [] M)
    (h2 : (z_M_in x1 0 1) = 0 → Q (some (.int (-1))) M) :
    WX mi_M_keep 2 Q 0 [some (.ref 37), some (.int x1), none] [] M := by
  refine WX.run (pc' := 3) (L' := [some (.ref 37), some (.int x1), none]) (st' := [.int 1, .int 0, .int x1]) (M' := M) (P := True) 3 rfl trivial ?_
  refine WX.callS (ca := mi_M_in) (n := 3) (d' := 1) (st := []) (As := [.int x1, .int 0, .int 1]) rfl lk_7_72 ck_M_in cs_M_in rfl (by decide) rfl (Nat.le_of_ble_eq_true rfl) (by intro w hw; simp only [List.mem_cons, List.not_mem_nil, or_false] at hw; rcases hw with rfl | rfl | rfl <;> rfl) (Nat.le_of_ble_eq_true rfl) ?_
  refine wx_M_in M x1 0 1 ?_
  show WX mi_M_keep 2 Q 6 [some (.ref 37), some (.int x1), none] [.int (z_M_in x1 0 1)] M
  refine WX.if_ne (off := 5) (tgt := 11) rfl rfl (fun c1 => ?_) (fun c1 => ?_)
  · refine WX.run (pc' := 13) (L' := [some (.ref 37), some (.int x1), some (.int 0)]) (st' := []) (M' := M) (P := True) 2 rfl trivial ?_
    exact (h1 c1)
  · refine WX.run (pc' := 10) (L' := [some (.ref 37), some (.int x1), none]) (st' := [.int (-1)]) (M' := M) (P := True) 1 rfl trivial ?_
    exact WX.iret rfl rfl (h2 c1)
theorem sg_M_keep_37_13 {Q : Option Value → Mem → Prop} (M : Mem) (x1 x2 : Int32)
    (b1 : 419 ≤ x2 → vp_in x1 2)
    (h2 : 419 ≤ x2 → Q (some (.int (M.1 46 37))) (wr M 47 x1.toNatClampNeg (vp_nar .boolean 1)))
    (b3 : ¬ 419 ≤ x2 → vp_in x2 1257)
    (b4 : ¬ 419 ≤ x2 → vp_in ((419 * (1 + x1)) + x2) 1257)
    (h5 : ¬ 419 ≤ x2 → WX mi_M_keep 2 Q 13 [some (.ref 37), some (.int x1), some (.int (x2 + 1))] [] (wr M 46 ((419 * (1 + x1)) + x2).toNatClampNeg (M.1 46 x2.toNatClampNeg))) :
    WX mi_M_keep 2 Q 13 [some (.ref 37), some (.int x1), some (.int x2)] [] M := by
  refine WX.run (pc' := 17) (L' := [some (.ref 37), some (.int x1), some (.int x2)]) (st' := [.int 419, .int x2]) (M' := M) (P := True) 2 rfl trivial ?_
  refine WX.icmp_ge (off := 29) (tgt := 46) rfl rfl (fun c1 => ?_) (fun c1 => ?_)
  · refine WX.run (pc' := 60) (L' := [some (.ref 37), some (.int x1), some (.int x2)]) (st' := [.int (M.1 46 37)]) (M' := (wr M 47 x1.toNatClampNeg (vp_nar .boolean 1))) (P := ((True ∧ vp_in x1 2) ∧ vp_in 37 1257)) 9 rfl ⟨⟨trivial, (b1 c1)⟩, (vp_lit rfl)⟩ ?_
    exact WX.iret rfl rfl (h2 c1)
  · refine WX.run (pc' := 13) (L' := [some (.ref 37), some (.int x1), some (.int (x2 + 1))]) (st' := []) (M' := (wr M 46 ((419 * (1 + x1)) + x2).toNatClampNeg (M.1 46 x2.toNatClampNeg))) (P := ((True ∧ vp_in x2 1257) ∧ vp_in ((419 * (1 + x1)) + x2) 1257)) 16 rfl ⟨⟨trivial, (b3 c1)⟩, (b4 c1)⟩ ?_
    exact (h5 c1)
theorem sg_M_back_37_0 {Q : Option Value → Mem → Prop} (M : Mem) (x1 : Int32)
    (b1 : ¬ (z_M_in x1 0 1) = 0 → vp_in x1 2)
    (h2 : ¬ (z_M_in x1 0 1) = 0 → ¬ (M.1 47 x1.toNatClampNeg) = 0 → WX mi_M_back 2 Q 25 [some (.ref 37), some (.int x1), some (.int 0)] [] M)
    (h3 : ¬ (z_M_in x1 0 1) = 0 → (M.1 47 x1.toNatClampNeg) = 0 → Q (some (.int (-2))) M)
    (h4 : (z_M_in x1 0 1) = 0 → Q (some (.int (-1))) M) :
    WX mi_M_back 2 Q 0 [some (.ref 37), some (.int x1), none] [] M := by
  refine WX.run (pc' := 3) (L' := [some (.ref 37), some (.int x1), none]) (st' := [.int 1, .int 0, .int x1]) (M' := M) (P := True) 3 rfl trivial ?_
  refine WX.callS (ca := mi_M_in) (n := 3) (d' := 1) (st := []) (As := [.int x1, .int 0, .int 1]) rfl lk_7_72 ck_M_in cs_M_in rfl (by decide) rfl (Nat.le_of_ble_eq_true rfl) (by intro w hw; simp only [List.mem_cons, List.not_mem_nil, or_false] at hw; rcases hw with rfl | rfl | rfl <;> rfl) (Nat.le_of_ble_eq_true rfl) ?_
  refine wx_M_in M x1 0 1 ?_
  show WX mi_M_back 2 Q 6 [some (.ref 37), some (.int x1), none] [.int (z_M_in x1 0 1)] M
  refine WX.if_ne (off := 5) (tgt := 11) rfl rfl (fun c1 => ?_) (fun c1 => ?_)
  · refine WX.run (pc' := 17) (L' := [some (.ref 37), some (.int x1), none]) (st' := [.int (M.1 47 x1.toNatClampNeg)]) (M' := M) (P := (True ∧ vp_in x1 2)) 4 rfl ⟨trivial, (b1 c1)⟩ ?_
    refine WX.if_ne (off := 6) (tgt := 23) rfl rfl (fun c2 => ?_) (fun c2 => ?_)
    · refine WX.run (pc' := 25) (L' := [some (.ref 37), some (.int x1), some (.int 0)]) (st' := []) (M' := M) (P := True) 2 rfl trivial ?_
      exact (h2 c1 c2)
    · refine WX.run (pc' := 22) (L' := [some (.ref 37), some (.int x1), none]) (st' := [.int (-2)]) (M' := M) (P := True) 1 rfl trivial ?_
      exact WX.iret rfl rfl (h3 c1 c2)
  · refine WX.run (pc' := 10) (L' := [some (.ref 37), some (.int x1), none]) (st' := [.int (-1)]) (M' := M) (P := True) 1 rfl trivial ?_
    exact WX.iret rfl rfl (h4 c1)
theorem sg_M_back_37_25 {Q : Option Value → Mem → Prop} (M : Mem) (x1 x2 : Int32)
    (h1 : 419 ≤ x2 → Q (some (.int (M.1 46 37))) M)
    (b2 : ¬ 419 ≤ x2 → vp_in ((419 * (1 + x1)) + x2) 1257)
    (b3 : ¬ 419 ≤ x2 → vp_in x2 1257)
    (h4 : ¬ 419 ≤ x2 → WX mi_M_back 2 Q 25 [some (.ref 37), some (.int x1), some (.int (x2 + 1))] [] (wr M 46 x2.toNatClampNeg (M.1 46 ((419 * (1 + x1)) + x2).toNatClampNeg))) :
    WX mi_M_back 2 Q 25 [some (.ref 37), some (.int x1), some (.int x2)] [] M := by
  refine WX.run (pc' := 29) (L' := [some (.ref 37), some (.int x1), some (.int x2)]) (st' := [.int 419, .int x2]) (M' := M) (P := True) 2 rfl trivial ?_
  refine WX.icmp_ge (off := 29) (tgt := 58) rfl rfl (fun c1 => ?_) (fun c1 => ?_)
  · refine WX.run (pc' := 65) (L' := [some (.ref 37), some (.int x1), some (.int x2)]) (st' := [.int (M.1 46 37)]) (M' := M) (P := (True ∧ vp_in 37 1257)) 4 rfl ⟨trivial, (vp_lit rfl)⟩ ?_
    exact WX.iret rfl rfl (h1 c1)
  · refine WX.run (pc' := 25) (L' := [some (.ref 37), some (.int x1), some (.int (x2 + 1))]) (st' := []) (M' := (wr M 46 x2.toNatClampNeg (M.1 46 ((419 * (1 + x1)) + x2).toNatClampNeg))) (P := ((True ∧ vp_in ((419 * (1 + x1)) + x2) 1257) ∧ vp_in x2 1257)) 16 rfl ⟨⟨trivial, (b2 c1)⟩, (b3 c1)⟩ ?_
    exact (h4 c1)
theorem sg_M_count_37_0 {Q : Option Value → Mem → Prop} (M : Mem) (x1 : Int32)
    (h1 : x1 = 0 → Q (some (.int (M.1 39 0))) M)
    (h2 : ¬ x1 = 0 → x1 = 1 → Q (some (.int (M.1 40 0))) M)
    (h3 : ¬ x1 = 0 → ¬ x1 = 1 → x1 = 2 → Q (some (.int (M.1 43 0))) M)
    (h4 : ¬ x1 = 0 → ¬ x1 = 1 → ¬ x1 = 2 → x1 = 3 → Q (some (.int (M.1 37 29))) M)
    (h5 : ¬ x1 = 0 → ¬ x1 = 1 → ¬ x1 = 2 → ¬ x1 = 3 → x1 = 4 → Q (some (.int (M.1 46 38))) M)
    (h6 : ¬ x1 = 0 → ¬ x1 = 1 → ¬ x1 = 2 → ¬ x1 = 3 → ¬ x1 = 4 → x1 = 5 → Q (some (.int (M.1 37 2))) M)
    (h7 : ¬ x1 = 0 → ¬ x1 = 1 → ¬ x1 = 2 → ¬ x1 = 3 → ¬ x1 = 4 → ¬ x1 = 5 → Q (some (.int (-1))) M) :
    WX mi_M_count 1 Q 0 [some (.ref 37), some (.int x1)] [] M := by
  refine WX.run (pc' := 1) (L' := [some (.ref 37), some (.int x1)]) (st' := [.int x1]) (M' := M) (P := True) 1 rfl trivial ?_
  by_cases c1 : x1 = 0
  · refine WX.tsw (tgt := 40) rfl (by decide) (by rw [c1]; decide) ?_
    refine WX.run (pc' := 46) (L' := [some (.ref 37), some (.int x1)]) (st' := [.int (M.1 39 0)]) (M' := M) (P := (True ∧ vp_in 0 2)) 4 rfl ⟨trivial, (vp_lit rfl)⟩ ?_
    exact WX.iret rfl rfl (h1 c1)
  · skip
    by_cases c2 : x1 = 1
    · refine WX.tsw (tgt := 47) rfl (by decide) (by rw [c2]; decide) ?_
      refine WX.run (pc' := 53) (L' := [some (.ref 37), some (.int x1)]) (st' := [.int (M.1 40 0)]) (M' := M) (P := (True ∧ vp_in 0 2)) 4 rfl ⟨trivial, (vp_lit rfl)⟩ ?_
      exact WX.iret rfl rfl (h2 c1 c2)
    · skip
      by_cases c3 : x1 = 2
      · refine WX.tsw (tgt := 54) rfl (by decide) (by rw [c3]; decide) ?_
        refine WX.run (pc' := 60) (L' := [some (.ref 37), some (.int x1)]) (st' := [.int (M.1 43 0)]) (M' := M) (P := (True ∧ vp_in 0 2)) 4 rfl ⟨trivial, (vp_lit rfl)⟩ ?_
        exact WX.iret rfl rfl (h3 c1 c2 c3)
      · skip
        by_cases c4 : x1 = 3
        · refine WX.tsw (tgt := 61) rfl (by decide) (by rw [c4]; decide) ?_
          refine WX.run (pc' := 65) (L' := [some (.ref 37), some (.int x1)]) (st' := [.int (M.1 37 29)]) (M' := M) (P := True) 2 rfl trivial ?_
          exact WX.iret rfl rfl (h4 c1 c2 c3 c4)
        · skip
          by_cases c5 : x1 = 4
          · refine WX.tsw (tgt := 66) rfl (by decide) (by rw [c5]; decide) ?_
            refine WX.run (pc' := 73) (L' := [some (.ref 37), some (.int x1)]) (st' := [.int (M.1 46 38)]) (M' := M) (P := (True ∧ vp_in 38 1257)) 4 rfl ⟨trivial, (vp_lit rfl)⟩ ?_
            exact WX.iret rfl rfl (h5 c1 c2 c3 c4 c5)
          · skip
            by_cases c6 : x1 = 5
            · refine WX.tsw (tgt := 74) rfl (by decide) (by rw [c6]; decide) ?_
              refine WX.run (pc' := 78) (L' := [some (.ref 37), some (.int x1)]) (st' := [.int (M.1 37 2)]) (M' := M) (P := True) 2 rfl trivial ?_
              exact WX.iret rfl rfl (h6 c1 c2 c3 c4 c5 c6)
            · skip
              refine WX.tsw (tgt := 79) rfl (by decide) (by
                    by_cases hr : (x1).toInt < 0 ∨ 5 < (x1).toInt
                    · unfold tswo; rw [if_pos hr]; rfl
                    · have hh : (x1).toInt = 0 ∨ (x1).toInt = 1 ∨ (x1).toInt = 2 ∨ (x1).toInt = 3 ∨ (x1).toInt = 4 ∨ (x1).toInt = 5 := by omega
                      rcases hh with hh | hh | hh | hh | hh | hh
                      · exact absurd hh (i32_ne c1 (by decide))
                      · exact absurd hh (i32_ne c2 (by decide))
                      · exact absurd hh (i32_ne c3 (by decide))
                      · exact absurd hh (i32_ne c4 (by decide))
                      · exact absurd hh (i32_ne c5 (by decide))
                      · exact absurd hh (i32_ne c6 (by decide))) ?_
              refine WX.run (pc' := 80) (L' := [some (.ref 37), some (.int x1)]) (st' := [.int (-1)]) (M' := M) (P := True) 1 rfl trivial ?_
              exact WX.iret rfl rfl (h7 c1 c2 c3 c4 c5 c6)
def z_M_count_37 (M : Mem) (x1 : Int32) : Int32 := (if x1 = 0 then (M.1 39 0) else (if x1 = 1 then (M.1 40 0) else (if x1 = 2 then (M.1 43 0) else (if x1 = 3 then (M.1 37 29) else (if x1 = 4 then (M.1 46 38) else (if x1 = 5 then (M.1 37 2) else (-1)))))))
theorem wx_M_count_37 {Q : Option Value → Mem → Prop} (M : Mem) (x1 : Int32)
    (h : Q (some (.int (z_M_count_37 M x1))) M) :
    WX mi_M_count 1 Q 0 [some (.ref 37), some (.int x1)] [] M := by
  refine sg_M_count_37_0 M x1
    (fun c1 => by
      unfold z_M_count_37 at h
      rw [if_pos c1] at h
      exact h)
    (fun c1 c2 => by
      unfold z_M_count_37 at h
      rw [if_neg c1, if_pos c2] at h
      exact h)
    (fun c1 c2 c3 => by
      unfold z_M_count_37 at h
      rw [if_neg c1, if_neg c2, if_pos c3] at h
      exact h)
    (fun c1 c2 c3 c4 => by
      unfold z_M_count_37 at h
      rw [if_neg c1, if_neg c2, if_neg c3, if_pos c4] at h
      exact h)
    (fun c1 c2 c3 c4 c5 => by
      unfold z_M_count_37 at h
      rw [if_neg c1, if_neg c2, if_neg c3, if_neg c4, if_pos c5] at h
      exact h)
    (fun c1 c2 c3 c4 c5 c6 => by
      unfold z_M_count_37 at h
      rw [if_neg c1, if_neg c2, if_neg c3, if_neg c4, if_neg c5, if_pos c6] at h
      exact h)
    (fun c1 c2 c3 c4 c5 c6 => by
      unfold z_M_count_37 at h
      rw [if_neg c1, if_neg c2, if_neg c3, if_neg c4, if_neg c5, if_neg c6] at h
      exact h)
theorem sg_M_trace_37_0 {Q : Option Value → Mem → Prop} (M : Mem)
    (h1 : Q (some (.long (M.2 37))) M) :
    WX mi_M_trace 1 Q 0 [some (.ref 37)] [] M := by
  refine WX.run (pc' := 4) (L' := [some (.ref 37)]) (st' := [.long (M.2 37)]) (M' := M) (P := True) 2 rfl trivial ?_
  exact WX.lret rfl rfl h1
