/-! ===== printed by wip/gen/gen08.py: the stretches of the methods ===== -/
theorem sg_C_count_0_0 {Q : Option Value → Mem → Prop} (M : Mem) (x1 : Int32)
    (h1 : x1 = 0 → Q (some (.int (M.1 6 0))) M)
    (h2 : ¬ x1 = 0 → x1 = 1 → Q (some (.int (M.1 6 1))) M)
    (h3 : ¬ x1 = 0 → ¬ x1 = 1 → x1 = 2 → Q (some (.int (M.1 6 2))) M)
    (h4 : ¬ x1 = 0 → ¬ x1 = 1 → ¬ x1 = 2 → x1 = 3 → Q (some (.int (M.1 0 10))) M)
    (h5 : ¬ x1 = 0 → ¬ x1 = 1 → ¬ x1 = 2 → ¬ x1 = 3 → x1 = 4 → Q (some (.int (M.1 9 8))) M)
    (h6 : ¬ x1 = 0 → ¬ x1 = 1 → ¬ x1 = 2 → ¬ x1 = 3 → ¬ x1 = 4 → x1 = 5 → Q (some (.int (M.1 1 1))) M)
    (h7 : ¬ x1 = 0 → ¬ x1 = 1 → ¬ x1 = 2 → ¬ x1 = 3 → ¬ x1 = 4 → ¬ x1 = 5 → Q (some (.int (-1))) M) :
    WX mi_C_count 1 Q 0 [some (.ref 0), some (.int x1)] [] M := by
  refine WX.run (pc' := 1) (L' := [some (.ref 0), some (.int x1)]) (st' := [.int x1]) (M' := M) (P := True) 1 rfl trivial ?_
  by_cases c1 : x1 = 0
  · refine WX.tsw (tgt := 40) rfl (by decide) (by rw [c1]; decide) ?_
    refine WX.run (pc' := 47) (L' := [some (.ref 0), some (.int x1)]) (st' := [.int (M.1 6 0)]) (M' := M) (P := True) 3 rfl trivial ?_
    exact WX.iret rfl rfl (h1 c1)
  · skip
    by_cases c2 : x1 = 1
    · refine WX.tsw (tgt := 48) rfl (by decide) (by rw [c2]; decide) ?_
      refine WX.run (pc' := 55) (L' := [some (.ref 0), some (.int x1)]) (st' := [.int (M.1 6 1)]) (M' := M) (P := True) 3 rfl trivial ?_
      exact WX.iret rfl rfl (h2 c1 c2)
    · skip
      by_cases c3 : x1 = 2
      · refine WX.tsw (tgt := 56) rfl (by decide) (by rw [c3]; decide) ?_
        refine WX.run (pc' := 63) (L' := [some (.ref 0), some (.int x1)]) (st' := [.int (M.1 6 2)]) (M' := M) (P := True) 3 rfl trivial ?_
        exact WX.iret rfl rfl (h3 c1 c2 c3)
      · skip
        by_cases c4 : x1 = 3
        · refine WX.tsw (tgt := 64) rfl (by decide) (by rw [c4]; decide) ?_
          refine WX.run (pc' := 68) (L' := [some (.ref 0), some (.int x1)]) (st' := [.int (M.1 0 10)]) (M' := M) (P := True) 2 rfl trivial ?_
          exact WX.iret rfl rfl (h4 c1 c2 c3 c4)
        · skip
          by_cases c5 : x1 = 4
          · refine WX.tsw (tgt := 69) rfl (by decide) (by rw [c5]; decide) ?_
            refine WX.run (pc' := 76) (L' := [some (.ref 0), some (.int x1)]) (st' := [.int (M.1 9 8)]) (M' := M) (P := True) 3 rfl trivial ?_
            exact WX.iret rfl rfl (h5 c1 c2 c3 c4 c5)
          · skip
            by_cases c6 : x1 = 5
            · refine WX.tsw (tgt := 77) rfl (by decide) (by rw [c6]; decide) ?_
              refine WX.run (pc' := 84) (L' := [some (.ref 0), some (.int x1)]) (st' := [.int (M.1 1 1)]) (M' := M) (P := True) 3 rfl trivial ?_
              exact WX.iret rfl rfl (h6 c1 c2 c3 c4 c5 c6)
            · skip
              refine WX.tsw (tgt := 85) rfl (by decide) (by
                    by_cases hr : (x1).toInt < 0 ∨ 5 < (x1).toInt
                    · unfold tswo; rw [if_pos hr]; rfl
                    · have hh : (x1).toInt = 0 ∨ (x1).toInt = 1 ∨ (x1).toInt = 2 ∨ (x1).toInt = 3 ∨ (x1).toInt = 4 ∨ (x1).toInt = 5 := by omega
                      rcases hh with hh | hh | hh | hh | hh | hh
                      · exact absurd hh (i32_ne c1 (by decide))
                      · exact absurd hh (i32_ne c2 (by decide))
                      · exact absurd hh (i32_ne c3 (by decide))
                      · exact absurd hh (i32_ne c4 (by decide))
                      · exact absurd hh (i32_ne c5 (by decide))
                      · exact absurd hh (i32_ne c6 (by decide))) ?_
              refine WX.run (pc' := 86) (L' := [some (.ref 0), some (.int x1)]) (st' := [.int (-1)]) (M' := M) (P := True) 1 rfl trivial ?_
              exact WX.iret rfl rfl (h7 c1 c2 c3 c4 c5 c6)
def z_C_count_0 (M : Mem) (x1 : Int32) : Int32 := (if x1 = 0 then (M.1 6 0) else (if x1 = 1 then (M.1 6 1) else (if x1 = 2 then (M.1 6 2) else (if x1 = 3 then (M.1 0 10) else (if x1 = 4 then (M.1 9 8) else (if x1 = 5 then (M.1 1 1) else (-1)))))))
theorem wx_C_count_0 {Q : Option Value → Mem → Prop} (M : Mem) (x1 : Int32)
    (h : Q (some (.int (z_C_count_0 M x1))) M) :
    WX mi_C_count 1 Q 0 [some (.ref 0), some (.int x1)] [] M := by
  refine sg_C_count_0_0 M x1
    (fun c1 => by
      unfold z_C_count_0 at h
      rw [if_pos c1] at h
      exact h)
    (fun c1 c2 => by
      unfold z_C_count_0 at h
      rw [if_neg c1, if_pos c2] at h
      exact h)
    (fun c1 c2 c3 => by
      unfold z_C_count_0 at h
      rw [if_neg c1, if_neg c2, if_pos c3] at h
      exact h)
    (fun c1 c2 c3 c4 => by
      unfold z_C_count_0 at h
      rw [if_neg c1, if_neg c2, if_neg c3, if_pos c4] at h
      exact h)
    (fun c1 c2 c3 c4 c5 => by
      unfold z_C_count_0 at h
      rw [if_neg c1, if_neg c2, if_neg c3, if_neg c4, if_pos c5] at h
      exact h)
    (fun c1 c2 c3 c4 c5 c6 => by
      unfold z_C_count_0 at h
      rw [if_neg c1, if_neg c2, if_neg c3, if_neg c4, if_neg c5, if_pos c6] at h
      exact h)
    (fun c1 c2 c3 c4 c5 c6 => by
      unfold z_C_count_0 at h
      rw [if_neg c1, if_neg c2, if_neg c3, if_neg c4, if_neg c5, if_neg c6] at h
      exact h)
theorem sg_C_trace_0_0 {Q : Option Value → Mem → Prop} (M : Mem)
    (h1 : Q (some (.long (M.2 0))) M) :
    WX mi_C_trace 1 Q 0 [some (.ref 0)] [] M := by
  refine WX.run (pc' := 4) (L' := [some (.ref 0)]) (st' := [.long (M.2 0)]) (M' := M) (P := True) 2 rfl trivial ?_
  exact WX.lret rfl rfl h1
theorem sg_M_in_0 {Q : Option Value → Mem → Prop} (M : Mem) (x0 x1 x2 : Int32)
    (h1 : x0 < x1 → Q (some (.int 0)) M)
    (h2 : ¬ x0 < x1 → x2 < x0 → Q (some (.int 0)) M)
    (h3 : ¬ x0 < x1 → ¬ x2 < x0 → Q (some (.int 1)) M) :
    WX mi_M_in 1 Q 0 [some (.int x0), some (.int x1), some (.int x2)] [] M := by
  refine WX.run (pc' := 2) (L' := [some (.int x0), some (.int x1), some (.int x2)]) (st' := [.int x1, .int x0]) (M' := M) (P := True) 2 rfl trivial ?_
  refine WX.icmp_lt (off := 12) (tgt := 14) rfl rfl (fun c1 => ?_) (fun c1 => ?_)
  · refine WX.run (pc' := 15) (L' := [some (.int x0), some (.int x1), some (.int x2)]) (st' := [.int 0]) (M' := M) (P := True) 1 rfl trivial ?_
    exact WX.zret rfl rfl (Or.inl rfl) (h1 c1)
  · refine WX.run (pc' := 7) (L' := [some (.int x0), some (.int x1), some (.int x2)]) (st' := [.int x2, .int x0]) (M' := M) (P := True) 2 rfl trivial ?_
    refine WX.icmp_gt (off := 7) (tgt := 14) rfl rfl (fun c2 => ?_) (fun c2 => ?_)
    · refine WX.run (pc' := 15) (L' := [some (.int x0), some (.int x1), some (.int x2)]) (st' := [.int 0]) (M' := M) (P := True) 1 rfl trivial ?_
      exact WX.zret rfl rfl (Or.inl rfl) (h2 c1 c2)
    · refine WX.run (pc' := 15) (L' := [some (.int x0), some (.int x1), some (.int x2)]) (st' := [.int 1]) (M' := M) (P := True) 2 rfl trivial ?_
      exact WX.zret rfl rfl (Or.inr rfl) (h3 c1 c2)
def z_M_in (x0 x1 x2 : Int32) : Int32 := (if x0 < x1 then 0 else (if x2 < x0 then 0 else 1))
theorem wx_M_in {Q : Option Value → Mem → Prop} (M : Mem) (x0 x1 x2 : Int32)
    (h : Q (some (.int (z_M_in x0 x1 x2))) M) :
    WX mi_M_in 1 Q 0 [some (.int x0), some (.int x1), some (.int x2)] [] M := by
  refine sg_M_in_0 M x0 x1 x2
    (fun c1 => by
      unfold z_M_in at h
      rw [if_pos c1] at h
      exact h)
    (fun c1 c2 => by
      unfold z_M_in at h
      rw [if_neg c1, if_pos c2] at h
      exact h)
    (fun c1 c2 => by
      unfold z_M_in at h
      rw [if_neg c1, if_neg c2] at h
      exact h)
theorem sg_M_manyOf_0 {Q : Option Value → Mem → Prop} (M : Mem) (x0 : Int32)
    (h1 : WX mi_M_manyOf 1 Q 4 [some (.int x0), some (.int 0), some (.int 0)] [] M) :
    WX mi_M_manyOf 1 Q 0 [some (.int x0), none, none] [] M := by
  refine WX.run (pc' := 4) (L' := [some (.int x0), some (.int 0), some (.int 0)]) (st' := []) (M' := M) (P := True) 4 rfl trivial ?_
  exact h1
theorem sg_M_manyOf_4 {Q : Option Value → Mem → Prop} (M : Mem) (x0 x1 x2 : Int32)
    (h1 : 16 ≤ x2 → Q (some (.int x1)) M)
    (h2 : ¬ 16 ≤ x2 → WX mi_M_manyOf 1 Q 4 [some (.int x0), some (.int (x1 + ((shr x0 x2) &&& 1))), some (.int (x2 + 1))] [] M) :
    WX mi_M_manyOf 1 Q 4 [some (.int x0), some (.int x1), some (.int x2)] [] M := by
  refine WX.run (pc' := 7) (L' := [some (.int x0), some (.int x1), some (.int x2)]) (st' := [.int 16, .int x2]) (M' := M) (P := True) 2 rfl trivial ?_
  refine WX.icmp_ge (off := 17) (tgt := 24) rfl rfl (fun c1 => ?_) (fun c1 => ?_)
  · refine WX.run (pc' := 25) (L' := [some (.int x0), some (.int x1), some (.int x2)]) (st' := [.int x1]) (M' := M) (P := True) 1 rfl trivial ?_
    exact WX.iret rfl rfl (h1 c1)
  · refine WX.run (pc' := 4) (L' := [some (.int x0), some (.int (x1 + ((shr x0 x2) &&& 1))), some (.int (x2 + 1))]) (st' := []) (M' := M) (P := True) 10 rfl trivial ?_
    exact (h2 c1)
theorem sg_M_wideOf_0 {Q : Option Value → Mem → Prop} (M : Mem) (x0 : Int32)
    (h1 : 2 ≤ x0 → Q (some (.int 1)) M)
    (h2 : ¬ 2 ≤ x0 → Q (some (.int 2)) M) :
    WX mi_M_wideOf 1 Q 0 [some (.int x0)] [] M := by
  refine WX.run (pc' := 2) (L' := [some (.int x0)]) (st' := [.int 2, .int x0]) (M' := M) (P := True) 2 rfl trivial ?_
  refine WX.icmp_ge (off := 7) (tgt := 9) rfl rfl (fun c1 => ?_) (fun c1 => ?_)
  · refine WX.run (pc' := 10) (L' := [some (.int x0)]) (st' := [.int 1]) (M' := M) (P := True) 1 rfl trivial ?_
    exact WX.iret rfl rfl (h1 c1)
  · refine WX.run (pc' := 10) (L' := [some (.int x0)]) (st' := [.int 2]) (M' := M) (P := True) 2 rfl trivial ?_
    exact WX.iret rfl rfl (h2 c1)
def z_M_wideOf (x0 : Int32) : Int32 := (if 2 ≤ x0 then 1 else 2)
theorem wx_M_wideOf {Q : Option Value → Mem → Prop} (M : Mem) (x0 : Int32)
    (h : Q (some (.int (z_M_wideOf x0))) M) :
    WX mi_M_wideOf 1 Q 0 [some (.int x0)] [] M := by
  refine sg_M_wideOf_0 M x0
    (fun c1 => by
      unfold z_M_wideOf at h
      rw [if_pos c1] at h
      exact h)
    (fun c1 => by
      unfold z_M_wideOf at h
      rw [if_neg c1] at h
      exact h)
theorem sg_M_highOf_0 {Q : Option Value → Mem → Prop} (M : Mem) (x0 : Int32)
    (h1 : ¬ (rem x0 2) = 0 → Q (some (.int 1)) M)
    (h2 : (rem x0 2) = 0 → Q (some (.int 2)) M) :
    WX mi_M_highOf 1 Q 0 [some (.int x0)] [] M := by
  refine WX.run (pc' := 3) (L' := [some (.int x0)]) (st' := [.int (rem x0 2)]) (M' := M) (P := (True ∧ ¬ 2 = 0)) 3 rfl ⟨trivial, (by decide)⟩ ?_
  refine WX.if_ne (off := 7) (tgt := 10) rfl rfl (fun c1 => ?_) (fun c1 => ?_)
  · refine WX.run (pc' := 11) (L' := [some (.int x0)]) (st' := [.int 1]) (M' := M) (P := True) 1 rfl trivial ?_
    exact WX.iret rfl rfl (h1 c1)
  · refine WX.run (pc' := 11) (L' := [some (.int x0)]) (st' := [.int 2]) (M' := M) (P := True) 2 rfl trivial ?_
    exact WX.iret rfl rfl (h2 c1)
def z_M_highOf (x0 : Int32) : Int32 := (if (rem x0 2) = 0 then 2 else 1)
theorem wx_M_highOf {Q : Option Value → Mem → Prop} (M : Mem) (x0 : Int32)
    (h : Q (some (.int (z_M_highOf x0))) M) :
    WX mi_M_highOf 1 Q 0 [some (.int x0)] [] M := by
  refine sg_M_highOf_0 M x0
    (fun c1 => by
      unfold z_M_highOf at h
      rw [if_neg c1] at h
      exact h)
    (fun c1 => by
      unfold z_M_highOf at h
      rw [if_pos c1] at h
      exact h)
theorem sg_M_isCell_37_0 {Q : Option Value → Mem → Prop} (M : Mem) (x1 x2 : Int32)
    (h1 : (z_M_in x1 0 ((M.1 39 0) - 1)) = 0 → Q (some (.int 0)) M)
    (h2 : ¬ (z_M_in x1 0 ((M.1 39 0) - 1)) = 0 → (z_M_in x2 0 ((M.1 40 0) - 1)) = 0 → Q (some (.int 0)) M)
    (h3 : ¬ (z_M_in x1 0 ((M.1 39 0) - 1)) = 0 → ¬ (z_M_in x2 0 ((M.1 40 0) - 1)) = 0 → Q (some (.int 1)) M) :
    WX mi_M_isCell 2 Q 0 [some (.ref 37), some (.int x1), some (.int x2)] [] M := by
  refine WX.run (pc' := 10) (L' := [some (.ref 37), some (.int x1), some (.int x2)]) (st' := [.int ((M.1 39 0) - 1), .int 0, .int x1]) (M' := M) (P := (True ∧ vp_in 0 2)) 8 rfl ⟨trivial, (vp_lit rfl)⟩ ?_
  refine WX.callS (ca := mi_M_in) (n := 3) (d' := 1) (st := []) (As := [.int x1, .int 0, .int ((M.1 39 0) - 1)]) rfl lk_7_72 ck_M_in cs_M_in rfl (by decide) rfl (Nat.le_of_ble_eq_true rfl) (by intro w hw; simp only [List.mem_cons, List.not_mem_nil, or_false] at hw; rcases hw with rfl | rfl | rfl <;> rfl) (Nat.le_of_ble_eq_true rfl) ?_
  refine wx_M_in M x1 0 ((M.1 39 0) - 1) ?_
  show WX mi_M_isCell 2 Q 13 [some (.ref 37), some (.int x1), some (.int x2)] [.int (z_M_in x1 0 ((M.1 39 0) - 1))] M
  refine WX.if_eq (off := 23) (tgt := 36) rfl rfl (fun c1 => ?_) (fun c1 => ?_)
  · refine WX.run (pc' := 37) (L' := [some (.ref 37), some (.int x1), some (.int x2)]) (st' := [.int 0]) (M' := M) (P := True) 1 rfl trivial ?_
    exact WX.zret rfl rfl (Or.inl rfl) (h1 c1)
  · refine WX.run (pc' := 26) (L' := [some (.ref 37), some (.int x1), some (.int x2)]) (st' := [.int ((M.1 40 0) - 1), .int 0, .int x2]) (M' := M) (P := (True ∧ vp_in 0 2)) 8 rfl ⟨trivial, (vp_lit rfl)⟩ ?_
    refine WX.callS (ca := mi_M_in) (n := 3) (d' := 1) (st := []) (As := [.int x2, .int 0, .int ((M.1 40 0) - 1)]) rfl lk_7_72 ck_M_in cs_M_in rfl (by decide) rfl (Nat.le_of_ble_eq_true rfl) (by intro w hw; simp only [List.mem_cons, List.not_mem_nil, or_false] at hw; rcases hw with rfl | rfl | rfl <;> rfl) (Nat.le_of_ble_eq_true rfl) ?_
    refine wx_M_in M x2 0 ((M.1 40 0) - 1) ?_
    show WX mi_M_isCell 2 Q 29 [some (.ref 37), some (.int x1), some (.int x2)] [.int (z_M_in x2 0 ((M.1 40 0) - 1))] M
    refine WX.if_eq (off := 7) (tgt := 36) rfl rfl (fun c2 => ?_) (fun c2 => ?_)
    · refine WX.run (pc' := 37) (L' := [some (.ref 37), some (.int x1), some (.int x2)]) (st' := [.int 0]) (M' := M) (P := True) 1 rfl trivial ?_
      exact WX.zret rfl rfl (Or.inl rfl) (h2 c1 c2)
    · refine WX.run (pc' := 37) (L' := [some (.ref 37), some (.int x1), some (.int x2)]) (st' := [.int 1]) (M' := M) (P := True) 2 rfl trivial ?_
      exact WX.zret rfl rfl (Or.inr rfl) (h3 c1 c2)
def z_M_isCell_37 (M : Mem) (x1 x2 : Int32) : Int32 := (if (z_M_in x1 0 ((M.1 39 0) - 1)) = 0 then 0 else (if (z_M_in x2 0 ((M.1 40 0) - 1)) = 0 then 0 else 1))
theorem wx_M_isCell_37 {Q : Option Value → Mem → Prop} (M : Mem) (x1 x2 : Int32)
    (h : Q (some (.int (z_M_isCell_37 M x1 x2))) M) :
    WX mi_M_isCell 2 Q 0 [some (.ref 37), some (.int x1), some (.int x2)] [] M := by
  refine sg_M_isCell_37_0 M x1 x2
    (fun c1 => by
      unfold z_M_isCell_37 at h
      rw [if_pos c1] at h
      exact h)
    (fun c1 c2 => by
      unfold z_M_isCell_37 at h
      rw [if_neg c1, if_pos c2] at h
      exact h)
    (fun c1 c2 => by
      unfold z_M_isCell_37 at h
      rw [if_neg c1, if_neg c2] at h
      exact h)
theorem sg_M_isThere_37_0 {Q : Option Value → Mem → Prop} (M : Mem) (x1 : Int32)
    (b1 : ((z_M_isCell_37 M (rem x1 4) (x1 / 4)) = 0 ∨ (z_M_isCell_37 M (rem x1 4) (x1 / 4)) = 1))
    (h2 : Q (some (.int (z_M_isCell_37 M (rem x1 4) (x1 / 4)))) M) :
    WX mi_M_isThere 3 Q 0 [some (.ref 37), some (.int x1)] [] M := by
  refine WX.run (pc' := 7) (L' := [some (.ref 37), some (.int x1)]) (st' := [.int (x1 / 4), .int (rem x1 4), .ref 37]) (M' := M) (P := ((True ∧ ¬ 4 = 0) ∧ ¬ 4 = 0)) 7 rfl ⟨⟨trivial, (by decide)⟩, (by decide)⟩ ?_
  refine WX.callV (ca := mi_M_isCell) (n := 2) (d' := 2) (st := []) (As := [.int (rem x1 4), .int (x1 / 4)]) (q := 37) rfl lk_7_131 ck_M_isCell cv_M_isCell rfl (by decide) rfl (Nat.le_of_ble_eq_true rfl) ⟨by decide, rfl, by decide⟩ (by intro w hw; simp only [List.mem_cons, List.not_mem_nil, or_false] at hw; rcases hw with rfl | rfl <;> rfl) (Nat.le_of_ble_eq_true rfl) ?_
  refine wx_M_isCell_37 M (rem x1 4) (x1 / 4) ?_
  show WX mi_M_isThere 3 Q 10 [some (.ref 37), some (.int x1)] [.int (z_M_isCell_37 M (rem x1 4) (x1 / 4))] M
  exact WX.zret rfl rfl b1 h2
def z_M_isThere_37 (M : Mem) (x1 : Int32) : Int32 := (z_M_isCell_37 M (rem x1 4) (x1 / 4))
theorem wx_M_isThere_37 {Q : Option Value → Mem → Prop} (M : Mem) (x1 : Int32)
    (b1 : ((z_M_isCell_37 M (rem x1 4) (x1 / 4)) = 0 ∨ (z_M_isCell_37 M (rem x1 4) (x1 / 4)) = 1))
    (h : Q (some (.int (z_M_isThere_37 M x1))) M) :
    WX mi_M_isThere 3 Q 0 [some (.ref 37), some (.int x1)] [] M := by
  refine sg_M_isThere_37_0 M x1
    b1
    (by
      unfold z_M_isThere_37 at h
      exact h)
theorem sg_M_isLid_37_0 {Q : Option Value → Mem → Prop} (M : Mem) (x1 : Int32)
    (h1 : ¬ ((shr (M.1 41 0) x1) &&& 1) = 1 → Q (some (.int 0)) M)
    (h2 : ((shr (M.1 41 0) x1) &&& 1) = 1 → Q (some (.int 1)) M) :
    WX mi_M_isLid 1 Q 0 [some (.ref 37), some (.int x1)] [] M := by
  refine WX.run (pc' := 11) (L' := [some (.ref 37), some (.int x1)]) (st' := [.int 1, .int ((shr (M.1 41 0) x1) &&& 1)]) (M' := M) (P := (True ∧ vp_in 0 2)) 9 rfl ⟨trivial, (vp_lit rfl)⟩ ?_
  refine WX.icmp_ne (off := 7) (tgt := 18) rfl rfl (fun c1 => ?_) (fun c1 => ?_)
  · refine WX.run (pc' := 19) (L' := [some (.ref 37), some (.int x1)]) (st' := [.int 0]) (M' := M) (P := True) 1 rfl trivial ?_
    exact WX.zret rfl rfl (Or.inl rfl) (h1 c1)
  · refine WX.run (pc' := 19) (L' := [some (.ref 37), some (.int x1)]) (st' := [.int 1]) (M' := M) (P := True) 2 rfl trivial ?_
    exact WX.zret rfl rfl (Or.inr rfl) (h2 c1)
def z_M_isLid_37 (M : Mem) (x1 : Int32) : Int32 := (if ((shr (M.1 41 0) x1) &&& 1) = 1 then 1 else 0)
theorem wx_M_isLid_37 {Q : Option Value → Mem → Prop} (M : Mem) (x1 : Int32)
    (h : Q (some (.int (z_M_isLid_37 M x1))) M) :
    WX mi_M_isLid 1 Q 0 [some (.ref 37), some (.int x1)] [] M := by
  refine sg_M_isLid_37_0 M x1
    (fun c1 => by
      unfold z_M_isLid_37 at h
      rw [if_neg c1] at h
      exact h)
    (fun c1 => by
      unfold z_M_isLid_37 at h
      rw [if_pos c1] at h
      exact h)
theorem sg_M_isDrain_37_0 {Q : Option Value → Mem → Prop} (M : Mem) (x1 : Int32)
    (h1 : ¬ ((shr (M.1 42 0) x1) &&& 1) = 1 → Q (some (.int 0)) M)
    (h2 : ((shr (M.1 42 0) x1) &&& 1) = 1 → Q (some (.int 1)) M) :
    WX mi_M_isDrain 1 Q 0 [some (.ref 37), some (.int x1)] [] M := by
  refine WX.run (pc' := 11) (L' := [some (.ref 37), some (.int x1)]) (st' := [.int 1, .int ((shr (M.1 42 0) x1) &&& 1)]) (M' := M) (P := (True ∧ vp_in 0 2)) 9 rfl ⟨trivial, (vp_lit rfl)⟩ ?_
  refine WX.icmp_ne (off := 7) (tgt := 18) rfl rfl (fun c1 => ?_) (fun c1 => ?_)
  · refine WX.run (pc' := 19) (L' := [some (.ref 37), some (.int x1)]) (st' := [.int 0]) (M' := M) (P := True) 1 rfl trivial ?_
    exact WX.zret rfl rfl (Or.inl rfl) (h1 c1)
  · refine WX.run (pc' := 19) (L' := [some (.ref 37), some (.int x1)]) (st' := [.int 1]) (M' := M) (P := True) 2 rfl trivial ?_
    exact WX.zret rfl rfl (Or.inr rfl) (h2 c1)
def z_M_isDrain_37 (M : Mem) (x1 : Int32) : Int32 := (if ((shr (M.1 42 0) x1) &&& 1) = 1 then 1 else 0)
theorem wx_M_isDrain_37 {Q : Option Value → Mem → Prop} (M : Mem) (x1 : Int32)
    (h : Q (some (.int (z_M_isDrain_37 M x1))) M) :
    WX mi_M_isDrain 1 Q 0 [some (.ref 37), some (.int x1)] [] M := by
  refine sg_M_isDrain_37_0 M x1
    (fun c1 => by
      unfold z_M_isDrain_37 at h
      rw [if_neg c1] at h
      exact h)
    (fun c1 => by
      unfold z_M_isDrain_37 at h
      rw [if_pos c1] at h
      exact h)
theorem sg_M_isDry_37_0 {Q : Option Value → Mem → Prop} (M : Mem) (x1 : Int32)
    (b1 : ((z_M_isCell_37 M (rem x1 4) (x1 / 4)) = 0 ∨ (z_M_isCell_37 M (rem x1 4) (x1 / 4)) = 1))
    (h2 : (z_M_isThere_37 M x1) = 0 → Q (some (.int 0)) M)
    (h3 : ¬ (z_M_isThere_37 M x1) = 0 → ¬ (z_M_isLid_37 M x1) = 0 → Q (some (.int 0)) M)
    (h4 : ¬ (z_M_isThere_37 M x1) = 0 → (z_M_isLid_37 M x1) = 0 → Q (some (.int 1)) M) :
    WX mi_M_isDry 4 Q 0 [some (.ref 37), some (.int x1)] [] M := by
  refine WX.run (pc' := 2) (L' := [some (.ref 37), some (.int x1)]) (st' := [.int x1, .ref 37]) (M' := M) (P := True) 2 rfl trivial ?_
  refine WX.callV (ca := mi_M_isThere) (n := 1) (d' := 3) (st := []) (As := [.int x1]) (q := 37) rfl lk_7_148 ck_M_isThere cv_M_isThere rfl (by decide) rfl (Nat.le_of_ble_eq_true rfl) ⟨by decide, rfl, by decide⟩ (by intro w hw; simp only [List.mem_cons, List.not_mem_nil, or_false] at hw; rcases hw with rfl <;> rfl) (Nat.le_of_ble_eq_true rfl) ?_
  refine wx_M_isThere_37 M x1 b1 ?_
  show WX mi_M_isDry 4 Q 5 [some (.ref 37), some (.int x1)] [.int (z_M_isThere_37 M x1)] M
  refine WX.if_eq (off := 15) (tgt := 20) rfl rfl (fun c1 => ?_) (fun c1 => ?_)
  · refine WX.run (pc' := 21) (L' := [some (.ref 37), some (.int x1)]) (st' := [.int 0]) (M' := M) (P := True) 1 rfl trivial ?_
    exact WX.zret rfl rfl (Or.inl rfl) (h2 c1)
  · refine WX.run (pc' := 10) (L' := [some (.ref 37), some (.int x1)]) (st' := [.int x1, .ref 37]) (M' := M) (P := True) 2 rfl trivial ?_
    refine WX.callV (ca := mi_M_isLid) (n := 1) (d' := 1) (st := []) (As := [.int x1]) (q := 37) rfl lk_7_134 ck_M_isLid cv_M_isLid rfl (by decide) rfl (Nat.le_of_ble_eq_true rfl) ⟨by decide, rfl, by decide⟩ (by intro w hw; simp only [List.mem_cons, List.not_mem_nil, or_false] at hw; rcases hw with rfl <;> rfl) (Nat.le_of_ble_eq_true rfl) ?_
    refine wx_M_isLid_37 M x1 ?_
    show WX mi_M_isDry 4 Q 13 [some (.ref 37), some (.int x1)] [.int (z_M_isLid_37 M x1)] M
    refine WX.if_ne (off := 7) (tgt := 20) rfl rfl (fun c2 => ?_) (fun c2 => ?_)
    · refine WX.run (pc' := 21) (L' := [some (.ref 37), some (.int x1)]) (st' := [.int 0]) (M' := M) (P := True) 1 rfl trivial ?_
      exact WX.zret rfl rfl (Or.inl rfl) (h3 c1 c2)
    · refine WX.run (pc' := 21) (L' := [some (.ref 37), some (.int x1)]) (st' := [.int 1]) (M' := M) (P := True) 2 rfl trivial ?_
      exact WX.zret rfl rfl (Or.inr rfl) (h4 c1 c2)
def z_M_isDry_37 (M : Mem) (x1 : Int32) : Int32 := (if (z_M_isThere_37 M x1) = 0 then 0 else (if (z_M_isLid_37 M x1) = 0 then 1 else 0))
theorem wx_M_isDry_37 {Q : Option Value → Mem → Prop} (M : Mem) (x1 : Int32)
    (b1 : ((z_M_isCell_37 M (rem x1 4) (x1 / 4)) = 0 ∨ (z_M_isCell_37 M (rem x1 4) (x1 / 4)) = 1))
    (h : Q (some (.int (z_M_isDry_37 M x1))) M) :
    WX mi_M_isDry 4 Q 0 [some (.ref 37), some (.int x1)] [] M := by
  refine sg_M_isDry_37_0 M x1
    b1
    (fun c1 => by
      unfold z_M_isDry_37 at h
      rw [if_pos c1] at h
      exact h)
    (fun c1 c2 => by
      unfold z_M_isDry_37 at h
      rw [if_neg c1, if_neg c2] at h
      exact h)
    (fun c1 c2 => by
      unfold z_M_isDry_37 at h
      rw [if_neg c1, if_pos c2] at h
      exact h)
theorem sg_M_isDryAt_37_0 {Q : Option Value → Mem → Prop} (M : Mem) (x1 x2 : Int32)
    (h1 : (z_M_isCell_37 M x1 x2) = 0 → Q (some (.int 0)) M)
    (h2 : ¬ (z_M_isCell_37 M x1 x2) = 0 → ¬ (z_M_isLid_37 M ((4 * x2) + x1)) = 0 → Q (some (.int 0)) M)
    (h3 : ¬ (z_M_isCell_37 M x1 x2) = 0 → (z_M_isLid_37 M ((4 * x2) + x1)) = 0 → Q (some (.int 1)) M) :
    WX mi_M_isDryAt 3 Q 0 [some (.ref 37), some (.int x1), some (.int x2)] [] M := by
  refine WX.run (pc' := 3) (L' := [some (.ref 37), some (.int x1), some (.int x2)]) (st' := [.int x2, .int x1, .ref 37]) (M' := M) (P := True) 3 rfl trivial ?_
  refine WX.callV (ca := mi_M_isCell) (n := 2) (d' := 2) (st := []) (As := [.int x1, .int x2]) (q := 37) rfl lk_7_131 ck_M_isCell cv_M_isCell rfl (by decide) rfl (Nat.le_of_ble_eq_true rfl) ⟨by decide, rfl, by decide⟩ (by intro w hw; simp only [List.mem_cons, List.not_mem_nil, or_false] at hw; rcases hw with rfl | rfl <;> rfl) (Nat.le_of_ble_eq_true rfl) ?_
  refine wx_M_isCell_37 M x1 x2 ?_
  show WX mi_M_isDryAt 3 Q 6 [some (.ref 37), some (.int x1), some (.int x2)] [.int (z_M_isCell_37 M x1 x2)] M
  refine WX.if_eq (off := 19) (tgt := 25) rfl rfl (fun c1 => ?_) (fun c1 => ?_)
  · refine WX.run (pc' := 26) (L' := [some (.ref 37), some (.int x1), some (.int x2)]) (st' := [.int 0]) (M' := M) (P := True) 1 rfl trivial ?_
    exact WX.zret rfl rfl (Or.inl rfl) (h1 c1)
  · refine WX.run (pc' := 15) (L' := [some (.ref 37), some (.int x1), some (.int x2)]) (st' := [.int ((4 * x2) + x1), .ref 37]) (M' := M) (P := True) 6 rfl trivial ?_
    refine WX.callV (ca := mi_M_isLid) (n := 1) (d' := 1) (st := []) (As := [.int ((4 * x2) + x1)]) (q := 37) rfl lk_7_134 ck_M_isLid cv_M_isLid rfl (by decide) rfl (Nat.le_of_ble_eq_true rfl) ⟨by decide, rfl, by decide⟩ (by intro w hw; simp only [List.mem_cons, List.not_mem_nil, or_false] at hw; rcases hw with rfl <;> rfl) (Nat.le_of_ble_eq_true rfl) ?_
    refine wx_M_isLid_37 M ((4 * x2) + x1) ?_
    show WX mi_M_isDryAt 3 Q 18 [some (.ref 37), some (.int x1), some (.int x2)] [.int (z_M_isLid_37 M ((4 * x2) + x1))] M
    refine WX.if_ne (off := 7) (tgt := 25) rfl rfl (fun c2 => ?_) (fun c2 => ?_)
    · refine WX.run (pc' := 26) (L' := [some (.ref 37), some (.int x1), some (.int x2)]) (st' := [.int 0]) (M' := M) (P := True) 1 rfl trivial ?_
      exact WX.zret rfl rfl (Or.inl rfl) (h2 c1 c2)
    · refine WX.run (pc' := 26) (L' := [some (.ref 37), some (.int x1), some (.int x2)]) (st' := [.int 1]) (M' := M) (P := True) 2 rfl trivial ?_
      exact WX.zret rfl rfl (Or.inr rfl) (h3 c1 c2)
def z_M_isDryAt_37 (M : Mem) (x1 x2 : Int32) : Int32 := (if (z_M_isCell_37 M x1 x2) = 0 then 0 else (if (z_M_isLid_37 M ((4 * x2) + x1)) = 0 then 1 else 0))
theorem wx_M_isDryAt_37 {Q : Option Value → Mem → Prop} (M : Mem) (x1 x2 : Int32)
    (h : Q (some (.int (z_M_isDryAt_37 M x1 x2))) M) :
    WX mi_M_isDryAt 3 Q 0 [some (.ref 37), some (.int x1), some (.int x2)] [] M := by
  refine sg_M_isDryAt_37_0 M x1 x2
    (fun c1 => by
      unfold z_M_isDryAt_37 at h
      rw [if_pos c1] at h
      exact h)
    (fun c1 c2 => by
      unfold z_M_isDryAt_37 at h
      rw [if_neg c1, if_neg c2] at h
      exact h)
    (fun c1 c2 => by
      unfold z_M_isDryAt_37 at h
      rw [if_neg c1, if_pos c2] at h
      exact h)
theorem sg_M_isFirm_37_0 {Q : Option Value → Mem → Prop} (M : Mem) (x1 : Int32)
    (b1 : ((z_M_isCell_37 M (rem x1 4) (x1 / 4)) = 0 ∨ (z_M_isCell_37 M (rem x1 4) (x1 / 4)) = 1))
    (h2 : (z_M_isDry_37 M x1) = 0 → Q (some (.int 0)) M)
    (h3 : ¬ (z_M_isDry_37 M x1) = 0 → ¬ ((shr (M.1 46 36) x1) &&& 1) = 0 → Q (some (.int 0)) M)
    (h4 : ¬ (z_M_isDry_37 M x1) = 0 → ((shr (M.1 46 36) x1) &&& 1) = 0 → Q (some (.int 1)) M) :
    WX mi_M_isFirm 5 Q 0 [some (.ref 37), some (.int x1)] [] M := by
  refine WX.run (pc' := 2) (L' := [some (.ref 37), some (.int x1)]) (st' := [.int x1, .ref 37]) (M' := M) (P := True) 2 rfl trivial ?_
  refine WX.callV (ca := mi_M_isDry) (n := 1) (d' := 4) (st := []) (As := [.int x1]) (q := 37) rfl lk_7_184 ck_M_isDry cv_M_isDry rfl (by decide) rfl (Nat.le_of_ble_eq_true rfl) ⟨by decide, rfl, by decide⟩ (by intro w hw; simp only [List.mem_cons, List.not_mem_nil, or_false] at hw; rcases hw with rfl <;> rfl) (Nat.le_of_ble_eq_true rfl) ?_
  refine wx_M_isDry_37 M x1 b1 ?_
  show WX mi_M_isFirm 5 Q 5 [some (.ref 37), some (.int x1)] [.int (z_M_isDry_37 M x1)] M
  refine WX.if_eq (off := 21) (tgt := 26) rfl rfl (fun c1 => ?_) (fun c1 => ?_)
  · refine WX.run (pc' := 27) (L' := [some (.ref 37), some (.int x1)]) (st' := [.int 0]) (M' := M) (P := True) 1 rfl trivial ?_
    exact WX.zret rfl rfl (Or.inl rfl) (h2 c1)
  · refine WX.run (pc' := 19) (L' := [some (.ref 37), some (.int x1)]) (st' := [.int ((shr (M.1 46 36) x1) &&& 1)]) (M' := M) (P := (True ∧ vp_in 36 1257)) 8 rfl ⟨trivial, (vp_lit rfl)⟩ ?_
    refine WX.if_ne (off := 7) (tgt := 26) rfl rfl (fun c2 => ?_) (fun c2 => ?_)
    · refine WX.run (pc' := 27) (L' := [some (.ref 37), some (.int x1)]) (st' := [.int 0]) (M' := M) (P := True) 1 rfl trivial ?_
      exact WX.zret rfl rfl (Or.inl rfl) (h3 c1 c2)
    · refine WX.run (pc' := 27) (L' := [some (.ref 37), some (.int x1)]) (st' := [.int 1]) (M' := M) (P := True) 2 rfl trivial ?_
      exact WX.zret rfl rfl (Or.inr rfl) (h4 c1 c2)
def z_M_isFirm_37 (M : Mem) (x1 : Int32) : Int32 := (if (z_M_isDry_37 M x1) = 0 then 0 else (if ((shr (M.1 46 36) x1) &&& 1) = 0 then 1 else 0))
theorem wx_M_isFirm_37 {Q : Option Value → Mem → Prop} (M : Mem) (x1 : Int32)
    (b1 : ((z_M_isCell_37 M (rem x1 4) (x1 / 4)) = 0 ∨ (z_M_isCell_37 M (rem x1 4) (x1 / 4)) = 1))
    (h : Q (some (.int (z_M_isFirm_37 M x1))) M) :
    WX mi_M_isFirm 5 Q 0 [some (.ref 37), some (.int x1)] [] M := by
  refine sg_M_isFirm_37_0 M x1
    b1
    (fun c1 => by
      unfold z_M_isFirm_37 at h
      rw [if_pos c1] at h
      exact h)
    (fun c1 c2 => by
      unfold z_M_isFirm_37 at h
      rw [if_neg c1, if_neg c2] at h
      exact h)
    (fun c1 c2 => by
      unfold z_M_isFirm_37 at h
      rw [if_neg c1, if_pos c2] at h
      exact h)
theorem sg_M_beside_37_0 {Q : Option Value → Mem → Prop} (M : Mem) (x1 x2 : Int32)
    (h1 : ¬ x2 = 1 → ¬ x2 = 3 → ¬ x2 = 2 → ¬ x2 = 0 → (z_M_isCell_37 M ((rem x1 4) + 0) ((x1 / 4) + 0)) = 0 → Q (some (.int (-9))) M)
    (h2 : ¬ x2 = 1 → ¬ x2 = 3 → ¬ x2 = 2 → ¬ x2 = 0 → ¬ (z_M_isCell_37 M ((rem x1 4) + 0) ((x1 / 4) + 0)) = 0 → Q (some (.int ((4 * ((x1 / 4) + 0)) + ((rem x1 4) + 0)))) M)
    (h3 : ¬ x2 = 1 → ¬ x2 = 3 → ¬ x2 = 2 → x2 = 0 → (z_M_isCell_37 M ((rem x1 4) + 0) ((x1 / 4) + (-1))) = 0 → Q (some (.int (-9))) M)
    (h4 : ¬ x2 = 1 → ¬ x2 = 3 → ¬ x2 = 2 → x2 = 0 → ¬ (z_M_isCell_37 M ((rem x1 4) + 0) ((x1 / 4) + (-1))) = 0 → Q (some (.int ((4 * ((x1 / 4) + (-1))) + ((rem x1 4) + 0)))) M)
    (h5 : ¬ x2 = 1 → ¬ x2 = 3 → x2 = 2 → (z_M_isCell_37 M ((rem x1 4) + 0) ((x1 / 4) + 1)) = 0 → Q (some (.int (-9))) M)
    (h6 : ¬ x2 = 1 → ¬ x2 = 3 → x2 = 2 → ¬ (z_M_isCell_37 M ((rem x1 4) + 0) ((x1 / 4) + 1)) = 0 → Q (some (.int ((4 * ((x1 / 4) + 1)) + ((rem x1 4) + 0)))) M)
    (h7 : ¬ x2 = 1 → x2 = 3 → ¬ x2 = 2 → ¬ x2 = 0 → (z_M_isCell_37 M ((rem x1 4) + (-1)) ((x1 / 4) + 0)) = 0 → Q (some (.int (-9))) M)
    (h8 : ¬ x2 = 1 → x2 = 3 → ¬ x2 = 2 → ¬ x2 = 0 → ¬ (z_M_isCell_37 M ((rem x1 4) + (-1)) ((x1 / 4) + 0)) = 0 → Q (some (.int ((4 * ((x1 / 4) + 0)) + ((rem x1 4) + (-1))))) M)
    (h9 : ¬ x2 = 1 → x2 = 3 → ¬ x2 = 2 → x2 = 0 → (z_M_isCell_37 M ((rem x1 4) + (-1)) ((x1 / 4) + (-1))) = 0 → Q (some (.int (-9))) M)
    (h10 : ¬ x2 = 1 → x2 = 3 → ¬ x2 = 2 → x2 = 0 → ¬ (z_M_isCell_37 M ((rem x1 4) + (-1)) ((x1 / 4) + (-1))) = 0 → Q (some (.int ((4 * ((x1 / 4) + (-1))) + ((rem x1 4) + (-1))))) M)
    (h11 : ¬ x2 = 1 → x2 = 3 → x2 = 2 → (z_M_isCell_37 M ((rem x1 4) + (-1)) ((x1 / 4) + 1)) = 0 → Q (some (.int (-9))) M)
    (h12 : ¬ x2 = 1 → x2 = 3 → x2 = 2 → ¬ (z_M_isCell_37 M ((rem x1 4) + (-1)) ((x1 / 4) + 1)) = 0 → Q (some (.int ((4 * ((x1 / 4) + 1)) + ((rem x1 4) + (-1))))) M)
    (h13 : x2 = 1 → ¬ x2 = 2 → ¬ x2 = 0 → (z_M_isCell_37 M ((rem x1 4) + 1) ((x1 / 4) + 0)) = 0 → Q (some (.int (-9))) M)
    (h14 : x2 = 1 → ¬ x2 = 2 → ¬ x2 = 0 → ¬ (z_M_isCell_37 M ((rem x1 4) + 1) ((x1 / 4) + 0)) = 0 → Q (some (.int ((4 * ((x1 / 4) + 0)) + ((rem x1 4) + 1)))) M)
    (h15 : x2 = 1 → ¬ x2 = 2 → x2 = 0 → (z_M_isCell_37 M ((rem x1 4) + 1) ((x1 / 4) + (-1))) = 0 → Q (some (.int (-9))) M)
    (h16 : x2 = 1 → ¬ x2 = 2 → x2 = 0 → ¬ (z_M_isCell_37 M ((rem x1 4) + 1) ((x1 / 4) + (-1))) = 0 → Q (some (.int ((4 * ((x1 / 4) + (-1))) + ((rem x1 4) + 1)))) M)
    (h17 : x2 = 1 → x2 = 2 → (z_M_isCell_37 M ((rem x1 4) + 1) ((x1 / 4) + 1)) = 0 → Q (some (.int (-9))) M)
    (h18 : x2 = 1 → x2 = 2 → ¬ (z_M_isCell_37 M ((rem x1 4) + 1) ((x1 / 4) + 1)) = 0 → Q (some (.int ((4 * ((x1 / 4) + 1)) + ((rem x1 4) + 1)))) M) :
    WX mi_M_beside 3 Q 0 [some (.ref 37), some (.int x1), some (.int x2), none, none] [] M := by
  refine WX.run (pc' := 5) (L' := [some (.ref 37), some (.int x1), some (.int x2), none, none]) (st' := [.int 1, .int x2, .int (rem x1 4)]) (M' := M) (P := (True ∧ ¬ 4 = 0)) 5 rfl ⟨trivial, (by decide)⟩ ?_
  refine WX.icmp_ne (off := 7) (tgt := 12) rfl rfl (fun c1 => ?_) (fun c1 => ?_)
  · refine WX.run (pc' := 14) (L' := [some (.ref 37), some (.int x1), some (.int x2), none, none]) (st' := [.int 3, .int x2, .int (rem x1 4)]) (M' := M) (P := True) 2 rfl trivial ?_
    refine WX.icmp_ne (off := 7) (tgt := 21) rfl rfl (fun c2 => ?_) (fun c2 => ?_)
    · refine WX.run (pc' := 29) (L' := [some (.ref 37), some (.int x1), some (.int x2), some (.int ((rem x1 4) + 0)), none]) (st' := [.int 2, .int x2, .int (x1 / 4)]) (M' := M) (P := (True ∧ ¬ 4 = 0)) 8 rfl ⟨trivial, (by decide)⟩ ?_
      refine WX.icmp_ne (off := 7) (tgt := 36) rfl rfl (fun c3 => ?_) (fun c3 => ?_)
      · refine WX.run (pc' := 37) (L' := [some (.ref 37), some (.int x1), some (.int x2), some (.int ((rem x1 4) + 0)), none]) (st' := [.int x2, .int (x1 / 4)]) (M' := M) (P := True) 1 rfl trivial ?_
        refine WX.if_ne (off := 7) (tgt := 44) rfl rfl (fun c4 => ?_) (fun c4 => ?_)
        · refine WX.run (pc' := 52) (L' := [some (.ref 37), some (.int x1), some (.int x2), some (.int ((rem x1 4) + 0)), some (.int ((x1 / 4) + 0))]) (st' := [.int ((x1 / 4) + 0), .int ((rem x1 4) + 0), .ref 37]) (M' := M) (P := True) 6 rfl trivial ?_
          refine WX.callV (ca := mi_M_isCell) (n := 2) (d' := 2) (st := []) (As := [.int ((rem x1 4) + 0), .int ((x1 / 4) + 0)]) (q := 37) rfl lk_7_131 ck_M_isCell cv_M_isCell rfl (by decide) rfl (Nat.le_of_ble_eq_true rfl) ⟨by decide, rfl, by decide⟩ (by intro w hw; simp only [List.mem_cons, List.not_mem_nil, or_false] at hw; rcases hw with rfl | rfl <;> rfl) (Nat.le_of_ble_eq_true rfl) ?_
          refine wx_M_isCell_37 M ((rem x1 4) + 0) ((x1 / 4) + 0) ?_
          show WX mi_M_beside 3 Q 55 [some (.ref 37), some (.int x1), some (.int x2), some (.int ((rem x1 4) + 0)), some (.int ((x1 / 4) + 0))] [.int (z_M_isCell_37 M ((rem x1 4) + 0) ((x1 / 4) + 0))] M
          refine WX.if_eq (off := 12) (tgt := 67) rfl rfl (fun c5 => ?_) (fun c5 => ?_)
          · refine WX.run (pc' := 69) (L' := [some (.ref 37), some (.int x1), some (.int x2), some (.int ((rem x1 4) + 0)), some (.int ((x1 / 4) + 0))]) (st' := [.int (-9)]) (M' := M) (P := True) 1 rfl trivial ?_
            exact WX.iret rfl rfl (h1 c1 c2 c3 c4 c5)
          · refine WX.run (pc' := 69) (L' := [some (.ref 37), some (.int x1), some (.int x2), some (.int ((rem x1 4) + 0)), some (.int ((x1 / 4) + 0))]) (st' := [.int ((4 * ((x1 / 4) + 0)) + ((rem x1 4) + 0))]) (M' := M) (P := True) 6 rfl trivial ?_
            exact WX.iret rfl rfl (h2 c1 c2 c3 c4 c5)
        · refine WX.run (pc' := 52) (L' := [some (.ref 37), some (.int x1), some (.int x2), some (.int ((rem x1 4) + 0)), some (.int ((x1 / 4) + (-1)))]) (st' := [.int ((x1 / 4) + (-1)), .int ((rem x1 4) + 0), .ref 37]) (M' := M) (P := True) 7 rfl trivial ?_
          refine WX.callV (ca := mi_M_isCell) (n := 2) (d' := 2) (st := []) (As := [.int ((rem x1 4) + 0), .int ((x1 / 4) + (-1))]) (q := 37) rfl lk_7_131 ck_M_isCell cv_M_isCell rfl (by decide) rfl (Nat.le_of_ble_eq_true rfl) ⟨by decide, rfl, by decide⟩ (by intro w hw; simp only [List.mem_cons, List.not_mem_nil, or_false] at hw; rcases hw with rfl | rfl <;> rfl) (Nat.le_of_ble_eq_true rfl) ?_
          refine wx_M_isCell_37 M ((rem x1 4) + 0) ((x1 / 4) + (-1)) ?_
          show WX mi_M_beside 3 Q 55 [some (.ref 37), some (.int x1), some (.int x2), some (.int ((rem x1 4) + 0)), some (.int ((x1 / 4) + (-1)))] [.int (z_M_isCell_37 M ((rem x1 4) + 0) ((x1 / 4) + (-1)))] M
          refine WX.if_eq (off := 12) (tgt := 67) rfl rfl (fun c6 => ?_) (fun c6 => ?_)
          · refine WX.run (pc' := 69) (L' := [some (.ref 37), some (.int x1), some (.int x2), some (.int ((rem x1 4) + 0)), some (.int ((x1 / 4) + (-1)))]) (st' := [.int (-9)]) (M' := M) (P := True) 1 rfl trivial ?_
            exact WX.iret rfl rfl (h3 c1 c2 c3 c4 c6)
          · refine WX.run (pc' := 69) (L' := [some (.ref 37), some (.int x1), some (.int x2), some (.int ((rem x1 4) + 0)), some (.int ((x1 / 4) + (-1)))]) (st' := [.int ((4 * ((x1 / 4) + (-1))) + ((rem x1 4) + 0))]) (M' := M) (P := True) 6 rfl trivial ?_
            exact WX.iret rfl rfl (h4 c1 c2 c3 c4 c6)
      · refine WX.run (pc' := 52) (L' := [some (.ref 37), some (.int x1), some (.int x2), some (.int ((rem x1 4) + 0)), some (.int ((x1 / 4) + 1))]) (st' := [.int ((x1 / 4) + 1), .int ((rem x1 4) + 0), .ref 37]) (M' := M) (P := True) 7 rfl trivial ?_
        refine WX.callV (ca := mi_M_isCell) (n := 2) (d' := 2) (st := []) (As := [.int ((rem x1 4) + 0), .int ((x1 / 4) + 1)]) (q := 37) rfl lk_7_131 ck_M_isCell cv_M_isCell rfl (by decide) rfl (Nat.le_of_ble_eq_true rfl) ⟨by decide, rfl, by decide⟩ (by intro w hw; simp only [List.mem_cons, List.not_mem_nil, or_false] at hw; rcases hw with rfl | rfl <;> rfl) (Nat.le_of_ble_eq_true rfl) ?_
        refine wx_M_isCell_37 M ((rem x1 4) + 0) ((x1 / 4) + 1) ?_
        show WX mi_M_beside 3 Q 55 [some (.ref 37), some (.int x1), some (.int x2), some (.int ((rem x1 4) + 0)), some (.int ((x1 / 4) + 1))] [.int (z_M_isCell_37 M ((rem x1 4) + 0) ((x1 / 4) + 1))] M
        refine WX.if_eq (off := 12) (tgt := 67) rfl rfl (fun c7 => ?_) (fun c7 => ?_)
        · refine WX.run (pc' := 69) (L' := [some (.ref 37), some (.int x1), some (.int x2), some (.int ((rem x1 4) + 0)), some (.int ((x1 / 4) + 1))]) (st' := [.int (-9)]) (M' := M) (P := True) 1 rfl trivial ?_
          exact WX.iret rfl rfl (h5 c1 c2 c3 c7)
        · refine WX.run (pc' := 69) (L' := [some (.ref 37), some (.int x1), some (.int x2), some (.int ((rem x1 4) + 0)), some (.int ((x1 / 4) + 1))]) (st' := [.int ((4 * ((x1 / 4) + 1)) + ((rem x1 4) + 0))]) (M' := M) (P := True) 6 rfl trivial ?_
          exact WX.iret rfl rfl (h6 c1 c2 c3 c7)
    · refine WX.run (pc' := 29) (L' := [some (.ref 37), some (.int x1), some (.int x2), some (.int ((rem x1 4) + (-1))), none]) (st' := [.int 2, .int x2, .int (x1 / 4)]) (M' := M) (P := (True ∧ ¬ 4 = 0)) 9 rfl ⟨trivial, (by decide)⟩ ?_
      refine WX.icmp_ne (off := 7) (tgt := 36) rfl rfl (fun c8 => ?_) (fun c8 => ?_)
      · refine WX.run (pc' := 37) (L' := [some (.ref 37), some (.int x1), some (.int x2), some (.int ((rem x1 4) + (-1))), none]) (st' := [.int x2, .int (x1 / 4)]) (M' := M) (P := True) 1 rfl trivial ?_
        refine WX.if_ne (off := 7) (tgt := 44) rfl rfl (fun c9 => ?_) (fun c9 => ?_)
        · refine WX.run (pc' := 52) (L' := [some (.ref 37), some (.int x1), some (.int x2), some (.int ((rem x1 4) + (-1))), some (.int ((x1 / 4) + 0))]) (st' := [.int ((x1 / 4) + 0), .int ((rem x1 4) + (-1)), .ref 37]) (M' := M) (P := True) 6 rfl trivial ?_
          refine WX.callV (ca := mi_M_isCell) (n := 2) (d' := 2) (st := []) (As := [.int ((rem x1 4) + (-1)), .int ((x1 / 4) + 0)]) (q := 37) rfl lk_7_131 ck_M_isCell cv_M_isCell rfl (by decide) rfl (Nat.le_of_ble_eq_true rfl) ⟨by decide, rfl, by decide⟩ (by intro w hw; simp only [List.mem_cons, List.not_mem_nil, or_false] at hw; rcases hw with rfl | rfl <;> rfl) (Nat.le_of_ble_eq_true rfl) ?_
          refine wx_M_isCell_37 M ((rem x1 4) + (-1)) ((x1 / 4) + 0) ?_
          show WX mi_M_beside 3 Q 55 [some (.ref 37), some (.int x1), some (.int x2), some (.int ((rem x1 4) + (-1))), some (.int ((x1 / 4) + 0))] [.int (z_M_isCell_37 M ((rem x1 4) + (-1)) ((x1 / 4) + 0))] M
          refine WX.if_eq (off := 12) (tgt := 67) rfl rfl (fun c10 => ?_) (fun c10 => ?_)
          · refine WX.run (pc' := 69) (L' := [some (.ref 37), some (.int x1), some (.int x2), some (.int ((rem x1 4) + (-1))), some (.int ((x1 / 4) + 0))]) (st' := [.int (-9)]) (M' := M) (P := True) 1 rfl trivial ?_
            exact WX.iret rfl rfl (h7 c1 c2 c8 c9 c10)
          · refine WX.run (pc' := 69) (L' := [some (.ref 37), some (.int x1), some (.int x2), some (.int ((rem x1 4) + (-1))), some (.int ((x1 / 4) + 0))]) (st' := [.int ((4 * ((x1 / 4) + 0)) + ((rem x1 4) + (-1)))]) (M' := M) (P := True) 6 rfl trivial ?_
            exact WX.iret rfl rfl (h8 c1 c2 c8 c9 c10)
        · refine WX.run (pc' := 52) (L' := [some (.ref 37), some (.int x1), some (.int x2), some (.int ((rem x1 4) + (-1))), some (.int ((x1 / 4) + (-1)))]) (st' := [.int ((x1 / 4) + (-1)), .int ((rem x1 4) + (-1)), .ref 37]) (M' := M) (P := True) 7 rfl trivial ?_
          refine WX.callV (ca := mi_M_isCell) (n := 2) (d' := 2) (st := []) (As := [.int ((rem x1 4) + (-1)), .int ((x1 / 4) + (-1))]) (q := 37) rfl lk_7_131 ck_M_isCell cv_M_isCell rfl (by decide) rfl (Nat.le_of_ble_eq_true rfl) ⟨by decide, rfl, by decide⟩ (by intro w hw; simp only [List.mem_cons, List.not_mem_nil, or_false] at hw; rcases hw with rfl | rfl <;> rfl) (Nat.le_of_ble_eq_true rfl) ?_
          refine wx_M_isCell_37 M ((rem x1 4) + (-1)) ((x1 / 4) + (-1)) ?_
          show WX mi_M_beside 3 Q 55 [some (.ref 37), some (.int x1), some (.int x2), some (.int ((rem x1 4) + (-1))), some (.int ((x1 / 4) + (-1)))] [.int (z_M_isCell_37 M ((rem x1 4) + (-1)) ((x1 / 4) + (-1)))] M
          refine WX.if_eq (off := 12) (tgt := 67) rfl rfl (fun c11 => ?_) (fun c11 => ?_)
          · refine WX.run (pc' := 69) (L' := [some (.ref 37), some (.int x1), some (.int x2), some (.int ((rem x1 4) + (-1))), some (.int ((x1 / 4) + (-1)))]) (st' := [.int (-9)]) (M' := M) (P := True) 1 rfl trivial ?_
            exact WX.iret rfl rfl (h9 c1 c2 c8 c9 c11)
          · refine WX.run (pc' := 69) (L' := [some (.ref 37), some (.int x1), some (.int x2), some (.int ((rem x1 4) + (-1))), some (.int ((x1 / 4) + (-1)))]) (st' := [.int ((4 * ((x1 / 4) + (-1))) + ((rem x1 4) + (-1)))]) (M' := M) (P := True) 6 rfl trivial ?_
            exact WX.iret rfl rfl (h10 c1 c2 c8 c9 c11)
      · refine WX.run (pc' := 52) (L' := [some (.ref 37), some (.int x1), some (.int x2), some (.int ((rem x1 4) + (-1))), some (.int ((x1 / 4) + 1))]) (st' := [.int ((x1 / 4) + 1), .int ((rem x1 4) + (-1)), .ref 37]) (M' := M) (P := True) 7 rfl trivial ?_
        refine WX.callV (ca := mi_M_isCell) (n := 2) (d' := 2) (st := []) (As := [.int ((rem x1 4) + (-1)), .int ((x1 / 4) + 1)]) (q := 37) rfl lk_7_131 ck_M_isCell cv_M_isCell rfl (by decide) rfl (Nat.le_of_ble_eq_true rfl) ⟨by decide, rfl, by decide⟩ (by intro w hw; simp only [List.mem_cons, List.not_mem_nil, or_false] at hw; rcases hw with rfl | rfl <;> rfl) (Nat.le_of_ble_eq_true rfl) ?_
        refine wx_M_isCell_37 M ((rem x1 4) + (-1)) ((x1 / 4) + 1) ?_
        show WX mi_M_beside 3 Q 55 [some (.ref 37), some (.int x1), some (.int x2), some (.int ((rem x1 4) + (-1))), some (.int ((x1 / 4) + 1))] [.int (z_M_isCell_37 M ((rem x1 4) + (-1)) ((x1 / 4) + 1))] M
        refine WX.if_eq (off := 12) (tgt := 67) rfl rfl (fun c12 => ?_) (fun c12 => ?_)
        · refine WX.run (pc' := 69) (L' := [some (.ref 37), some (.int x1), some (.int x2), some (.int ((rem x1 4) + (-1))), some (.int ((x1 / 4) + 1))]) (st' := [.int (-9)]) (M' := M) (P := True) 1 rfl trivial ?_
          exact WX.iret rfl rfl (h11 c1 c2 c8 c12)
        · refine WX.run (pc' := 69) (L' := [some (.ref 37), some (.int x1), some (.int x2), some (.int ((rem x1 4) + (-1))), some (.int ((x1 / 4) + 1))]) (st' := [.int ((4 * ((x1 / 4) + 1)) + ((rem x1 4) + (-1)))]) (M' := M) (P := True) 6 rfl trivial ?_
          exact WX.iret rfl rfl (h12 c1 c2 c8 c12)
  · refine WX.run (pc' := 29) (L' := [some (.ref 37), some (.int x1), some (.int x2), some (.int ((rem x1 4) + 1)), none]) (st' := [.int 2, .int x2, .int (x1 / 4)]) (M' := M) (P := (True ∧ ¬ 4 = 0)) 9 rfl ⟨trivial, (by decide)⟩ ?_
    refine WX.icmp_ne (off := 7) (tgt := 36) rfl rfl (fun c13 => ?_) (fun c13 => ?_)
    · refine WX.run (pc' := 37) (L' := [some (.ref 37), some (.int x1), some (.int x2), some (.int ((rem x1 4) + 1)), none]) (st' := [.int x2, .int (x1 / 4)]) (M' := M) (P := True) 1 rfl trivial ?_
      refine WX.if_ne (off := 7) (tgt := 44) rfl rfl (fun c14 => ?_) (fun c14 => ?_)
      · refine WX.run (pc' := 52) (L' := [some (.ref 37), some (.int x1), some (.int x2), some (.int ((rem x1 4) + 1)), some (.int ((x1 / 4) + 0))]) (st' := [.int ((x1 / 4) + 0), .int ((rem x1 4) + 1), .ref 37]) (M' := M) (P := True) 6 rfl trivial ?_
        refine WX.callV (ca := mi_M_isCell) (n := 2) (d' := 2) (st := []) (As := [.int ((rem x1 4) + 1), .int ((x1 / 4) + 0)]) (q := 37) rfl lk_7_131 ck_M_isCell cv_M_isCell rfl (by decide) rfl (Nat.le_of_ble_eq_true rfl) ⟨by decide, rfl, by decide⟩ (by intro w hw; simp only [List.mem_cons, List.not_mem_nil, or_false] at hw; rcases hw with rfl | rfl <;> rfl) (Nat.le_of_ble_eq_true rfl) ?_
        refine wx_M_isCell_37 M ((rem x1 4) + 1) ((x1 / 4) + 0) ?_
        show WX mi_M_beside 3 Q 55 [some (.ref 37), some (.int x1), some (.int x2), some (.int ((rem x1 4) + 1)), some (.int ((x1 / 4) + 0))] [.int (z_M_isCell_37 M ((rem x1 4) + 1) ((x1 / 4) + 0))] M
        refine WX.if_eq (off := 12) (tgt := 67) rfl rfl (fun c15 => ?_) (fun c15 => ?_)
        · refine WX.run (pc' := 69) (L' := [some (.ref 37), some (.int x1), some (.int x2), some (.int ((rem x1 4) + 1)), some (.int ((x1 / 4) + 0))]) (st' := [.int (-9)]) (M' := M) (P := True) 1 rfl trivial ?_
          exact WX.iret rfl rfl (h13 c1 c13 c14 c15)
        · refine WX.run (pc' := 69) (L' := [some (.ref 37), some (.int x1), some (.int x2), some (.int ((rem x1 4) + 1)), some (.int ((x1 / 4) + 0))]) (st' := [.int ((4 * ((x1 / 4) + 0)) + ((rem x1 4) + 1))]) (M' := M) (P := True) 6 rfl trivial ?_
          exact WX.iret rfl rfl (h14 c1 c13 c14 c15)
      · refine WX.run (pc' := 52) (L' := [some (.ref 37), some (.int x1), some (.int x2), some (.int ((rem x1 4) + 1)), some (.int ((x1 / 4) + (-1)))]) (st' := [.int ((x1 / 4) + (-1)), .int ((rem x1 4) + 1), .ref 37]) (M' := M) (P := True) 7 rfl trivial ?_
        refine WX.callV (ca := mi_M_isCell) (n := 2) (d' := 2) (st := []) (As := [.int ((rem x1 4) + 1), .int ((x1 / 4) + (-1))]) (q := 37) rfl lk_7_131 ck_M_isCell cv_M_isCell rfl (by decide) rfl (Nat.le_of_ble_eq_true rfl) ⟨by decide, rfl, by decide⟩ (by intro w hw; simp only [List.mem_cons, List.not_mem_nil, or_false] at hw; rcases hw with rfl | rfl <;> rfl) (Nat.le_of_ble_eq_true rfl) ?_
        refine wx_M_isCell_37 M ((rem x1 4) + 1) ((x1 / 4) + (-1)) ?_
        show WX mi_M_beside 3 Q 55 [some (.ref 37), some (.int x1), some (.int x2), some (.int ((rem x1 4) + 1)), some (.int ((x1 / 4) + (-1)))] [.int (z_M_isCell_37 M ((rem x1 4) + 1) ((x1 / 4) + (-1)))] M
        refine WX.if_eq (off := 12) (tgt := 67) rfl rfl (fun c16 => ?_) (fun c16 => ?_)
        · refine WX.run (pc' := 69) (L' := [some (.ref 37), some (.int x1), some (.int x2), some (.int ((rem x1 4) + 1)), some (.int ((x1 / 4) + (-1)))]) (st' := [.int (-9)]) (M' := M) (P := True) 1 rfl trivial ?_
          exact WX.iret rfl rfl (h15 c1 c13 c14 c16)
        · refine WX.run (pc' := 69) (L' := [some (.ref 37), some (.int x1), some (.int x2), some (.int ((rem x1 4) + 1)), some (.int ((x1 / 4) + (-1)))]) (st' := [.int ((4 * ((x1 / 4) + (-1))) + ((rem x1 4) + 1))]) (M' := M) (P := True) 6 rfl trivial ?_
          exact WX.iret rfl rfl (h16 c1 c13 c14 c16)
    · refine WX.run (pc' := 52) (L' := [some (.ref 37), some (.int x1), some (.int x2), some (.int ((rem x1 4) + 1)), some (.int ((x1 / 4) + 1))]) (st' := [.int ((x1 / 4) + 1), .int ((rem x1 4) + 1), .ref 37]) (M' := M) (P := True) 7 rfl trivial ?_
      refine WX.callV (ca := mi_M_isCell) (n := 2) (d' := 2) (st := []) (As := [.int ((rem x1 4) + 1), .int ((x1 / 4) + 1)]) (q := 37) rfl lk_7_131 ck_M_isCell cv_M_isCell rfl (by decide) rfl (Nat.le_of_ble_eq_true rfl) ⟨by decide, rfl, by decide⟩ (by intro w hw; simp only [List.mem_cons, List.not_mem_nil, or_false] at hw; rcases hw with rfl | rfl <;> rfl) (Nat.le_of_ble_eq_true rfl) ?_
      refine wx_M_isCell_37 M ((rem x1 4) + 1) ((x1 / 4) + 1) ?_
      show WX mi_M_beside 3 Q 55 [some (.ref 37), some (.int x1), some (.int x2), some (.int ((rem x1 4) + 1)), some (.int ((x1 / 4) + 1))] [.int (z_M_isCell_37 M ((rem x1 4) + 1) ((x1 / 4) + 1))] M
      refine WX.if_eq (off := 12) (tgt := 67) rfl rfl (fun c17 => ?_) (fun c17 => ?_)
      · refine WX.run (pc' := 69) (L' := [some (.ref 37), some (.int x1), some (.int x2), some (.int ((rem x1 4) + 1)), some (.int ((x1 / 4) + 1))]) (st' := [.int (-9)]) (M' := M) (P := True) 1 rfl trivial ?_
        exact WX.iret rfl rfl (h17 c1 c13 c17)
      · refine WX.run (pc' := 69) (L' := [some (.ref 37), some (.int x1), some (.int x2), some (.int ((rem x1 4) + 1)), some (.int ((x1 / 4) + 1))]) (st' := [.int ((4 * ((x1 / 4) + 1)) + ((rem x1 4) + 1))]) (M' := M) (P := True) 6 rfl trivial ?_
        exact WX.iret rfl rfl (h18 c1 c13 c17)
def z_M_beside_37 (M : Mem) (x1 x2 : Int32) : Int32 := (if x2 = 1 then (if x2 = 2 then (if (z_M_isCell_37 M ((rem x1 4) + 1) ((x1 / 4) + 1)) = 0 then (-9) else ((4 * ((x1 / 4) + 1)) + ((rem x1 4) + 1))) else (if x2 = 0 then (if (z_M_isCell_37 M ((rem x1 4) + 1) ((x1 / 4) + (-1))) = 0 then (-9) else ((4 * ((x1 / 4) + (-1))) + ((rem x1 4) + 1))) else (if (z_M_isCell_37 M ((rem x1 4) + 1) ((x1 / 4) + 0)) = 0 then (-9) else ((4 * ((x1 / 4) + 0)) + ((rem x1 4) + 1))))) else (if x2 = 3 then (if x2 = 2 then (if (z_M_isCell_37 M ((rem x1 4) + (-1)) ((x1 / 4) + 1)) = 0 then (-9) else ((4 * ((x1 / 4) + 1)) + ((rem x1 4) + (-1)))) else (if x2 = 0 then (if (z_M_isCell_37 M ((rem x1 4) + (-1)) ((x1 / 4) + (-1))) = 0 then (-9) else ((4 * ((x1 / 4) + (-1))) + ((rem x1 4) + (-1)))) else (if (z_M_isCell_37 M ((rem x1 4) + (-1)) ((x1 / 4) + 0)) = 0 then (-9) else ((4 * ((x1 / 4) + 0)) + ((rem x1 4) + (-1)))))) else (if x2 = 2 then (if (z_M_isCell_37 M ((rem x1 4) + 0) ((x1 / 4) + 1)) = 0 then (-9) else ((4 * ((x1 / 4) + 1)) + ((rem x1 4) + 0))) else (if x2 = 0 then (if (z_M_isCell_37 M ((rem x1 4) + 0) ((x1 / 4) + (-1))) = 0 then (-9) else ((4 * ((x1 / 4) + (-1))) + ((rem x1 4) + 0))) else (if (z_M_isCell_37 M ((rem x1 4) + 0) ((x1 / 4) + 0)) = 0 then (-9) else ((4 * ((x1 / 4) + 0)) + ((rem x1 4) + 0)))))))
theorem wx_M_beside_37 {Q : Option Value → Mem → Prop} (M : Mem) (x1 x2 : Int32)
    (h : Q (some (.int (z_M_beside_37 M x1 x2))) M) :
    WX mi_M_beside 3 Q 0 [some (.ref 37), some (.int x1), some (.int x2), none, none] [] M := by
  refine sg_M_beside_37_0 M x1 x2
    (fun c1 c2 c3 c4 c5 => by
      unfold z_M_beside_37 at h
      rw [if_neg c1, if_neg c2, if_neg c3, if_neg c4, if_pos c5] at h
      exact h)
    (fun c1 c2 c3 c4 c5 => by
      unfold z_M_beside_37 at h
      rw [if_neg c1, if_neg c2, if_neg c3, if_neg c4, if_neg c5] at h
      exact h)
    (fun c1 c2 c3 c4 c5 => by
      unfold z_M_beside_37 at h
      rw [if_neg c1, if_neg c2, if_neg c3, if_pos c4, if_pos c5] at h
      exact h)
    (fun c1 c2 c3 c4 c5 => by
      unfold z_M_beside_37 at h
      rw [if_neg c1, if_neg c2, if_neg c3, if_pos c4, if_neg c5] at h
      exact h)
    (fun c1 c2 c3 c4 => by
      unfold z_M_beside_37 at h
      rw [if_neg c1, if_neg c2, if_pos c3, if_pos c4] at h
      exact h)
    (fun c1 c2 c3 c4 => by
      unfold z_M_beside_37 at h
      rw [if_neg c1, if_neg c2, if_pos c3, if_neg c4] at h
      exact h)
    (fun c1 c2 c3 c4 c5 => by
      unfold z_M_beside_37 at h
      rw [if_neg c1, if_pos c2, if_neg c3, if_neg c4, if_pos c5] at h
      exact h)
    (fun c1 c2 c3 c4 c5 => by
      unfold z_M_beside_37 at h
      rw [if_neg c1, if_pos c2, if_neg c3, if_neg c4, if_neg c5] at h
      exact h)
    (fun c1 c2 c3 c4 c5 => by
      unfold z_M_beside_37 at h
      rw [if_neg c1, if_pos c2, if_neg c3, if_pos c4, if_pos c5] at h
      exact h)
    (fun c1 c2 c3 c4 c5 => by
      unfold z_M_beside_37 at h
      rw [if_neg c1, if_pos c2, if_neg c3, if_pos c4, if_neg c5] at h
      exact h)
    (fun c1 c2 c3 c4 => by
      unfold z_M_beside_37 at h
      rw [if_neg c1, if_pos c2, if_pos c3, if_pos c4] at h
      exact h)
    (fun c1 c2 c3 c4 => by
      unfold z_M_beside_37 at h
      rw [if_neg c1, if_pos c2, if_pos c3, if_neg c4] at h
      exact h)
    (fun c1 c2 c3 c4 => by
      unfold z_M_beside_37 at h
      rw [if_pos c1, if_neg c2, if_neg c3, if_pos c4] at h
      exact h)
    (fun c1 c2 c3 c4 => by
      unfold z_M_beside_37 at h
      rw [if_pos c1, if_neg c2, if_neg c3, if_neg c4] at h
      exact h)
    (fun c1 c2 c3 c4 => by
      unfold z_M_beside_37 at h
      rw [if_pos c1, if_neg c2, if_pos c3, if_pos c4] at h
      exact h)
    (fun c1 c2 c3 c4 => by
      unfold z_M_beside_37 at h
      rw [if_pos c1, if_neg c2, if_pos c3, if_neg c4] at h
      exact h)
    (fun c1 c2 c3 => by
      unfold z_M_beside_37 at h
      rw [if_pos c1, if_pos c2, if_pos c3] at h
      exact h)
    (fun c1 c2 c3 => by
      unfold z_M_beside_37 at h
      rw [if_pos c1, if_pos c2, if_neg c3] at h
      exact h)
theorem sg_M_cellsOf_37_0 {Q : Option Value → Mem → Prop} (M : Mem) (x1 x2 : Int32)
    (h1 : WX mi_M_cellsOf 3 Q 5 [some (.ref 37), some (.int x1), some (.int x2), some (.int 0), some (.int 0), none, none] [] M) :
    WX mi_M_cellsOf 3 Q 0 [some (.ref 37), some (.int x1), some (.int x2), none, none, none, none] [] M := by
  refine WX.run (pc' := 5) (L' := [some (.ref 37), some (.int x1), some (.int x2), some (.int 0), some (.int 0), none, none]) (st' := []) (M' := M) (P := True) 4 rfl trivial ?_
  exact h1
theorem sg_M_cellsOf_37_5 {Q : Option Value → Mem → Prop} (M : Mem) (x1 x2 x3 x4 : Int32)
    (h1 : 4 ≤ x4 → Q (some (.int x3)) M)
    (h2 : ¬ 4 ≤ x4 → (z_M_wideOf x1) ≤ (rem x4 2) → WX mi_M_cellsOf 3 Q 5 [some (.ref 37), some (.int x1), some (.int x2), some (.int x3), some (.int (x4 + 1)), none, none] [] M)
    (h3 : ¬ 4 ≤ x4 → ¬ (z_M_wideOf x1) ≤ (rem x4 2) → (z_M_highOf x1) ≤ (x4 / 2) → WX mi_M_cellsOf 3 Q 5 [some (.ref 37), some (.int x1), some (.int x2), some (.int x3), some (.int (x4 + 1)), none, none] [] M)
    (h4 : ¬ 4 ≤ x4 → ¬ (z_M_wideOf x1) ≤ (rem x4 2) → ¬ (z_M_highOf x1) ≤ (x4 / 2) → ¬ (z_M_isCell_37 M ((rem x2 4) + (rem x4 2)) ((x2 / 4) + (x4 / 2))) = 0 → WX mi_M_cellsOf 3 Q 5 [some (.ref 37), some (.int x1), some (.int x2), some (.int (x3 ||| (shl 1 ((4 * ((x2 / 4) + (x4 / 2))) + ((rem x2 4) + (rem x4 2)))))), some (.int (x4 + 1)), none, none] [] M)
    (h5 : ¬ 4 ≤ x4 → ¬ (z_M_wideOf x1) ≤ (rem x4 2) → ¬ (z_M_highOf x1) ≤ (x4 / 2) → (z_M_isCell_37 M ((rem x2 4) + (rem x4 2)) ((x2 / 4) + (x4 / 2))) = 0 → Q (some (.int 0)) M) :
    WX mi_M_cellsOf 3 Q 5 [some (.ref 37), some (.int x1), some (.int x2), some (.int x3), some (.int x4), none, none] [] M := by
  refine WX.run (pc' := 8) (L' := [some (.ref 37), some (.int x1), some (.int x2), some (.int x3), some (.int x4), none, none]) (st' := [.int 4, .int x4]) (M' := M) (P := True) 2 rfl trivial ?_
  refine WX.icmp_ge (off := 76) (tgt := 84) rfl rfl (fun c1 => ?_) (fun c1 => ?_)
  · refine WX.run (pc' := 85) (L' := [some (.ref 37), some (.int x1), some (.int x2), some (.int x3), some (.int x4), none, none]) (st' := [.int x3]) (M' := M) (P := True) 1 rfl trivial ?_
    exact WX.iret rfl rfl (h1 c1)
  · refine WX.run (pc' := 36) (L' := [some (.ref 37), some (.int x1), some (.int x2), some (.int x3), some (.int x4), some (.int ((rem x2 4) + (rem x4 2))), some (.int ((x2 / 4) + (x4 / 2)))]) (st' := [.int x1, .int (rem x4 2)]) (M' := M) (P := (((((True ∧ ¬ 4 = 0) ∧ ¬ 2 = 0) ∧ ¬ 4 = 0) ∧ ¬ 2 = 0) ∧ ¬ 2 = 0)) 20 rfl ⟨⟨⟨⟨⟨trivial, (by decide)⟩, (by decide)⟩, (by decide)⟩, (by decide)⟩, (by decide)⟩ ?_
    refine WX.callS (ca := mi_M_wideOf) (n := 1) (d' := 1) (st := [.int (rem x4 2)]) (As := [.int x1]) rfl lk_7_141 ck_M_wideOf cs_M_wideOf rfl (by decide) rfl (Nat.le_of_ble_eq_true rfl) (by intro w hw; simp only [List.mem_cons, List.not_mem_nil, or_false] at hw; rcases hw with rfl <;> rfl) (Nat.le_of_ble_eq_true rfl) ?_
    refine wx_M_wideOf M x1 ?_
    show WX mi_M_cellsOf 3 Q 39 [some (.ref 37), some (.int x1), some (.int x2), some (.int x3), some (.int x4), some (.int ((rem x2 4) + (rem x4 2))), some (.int ((x2 / 4) + (x4 / 2)))] [.int (z_M_wideOf x1), .int (rem x4 2)] M
    refine WX.icmp_ge (off := 39) (tgt := 78) rfl rfl (fun c2 => ?_) (fun c2 => ?_)
    · refine WX.run (pc' := 5) (L' := [some (.ref 37), some (.int x1), some (.int x2), some (.int x3), some (.int (x4 + 1)), some (.int ((rem x2 4) + (rem x4 2))), some (.int ((x2 / 4) + (x4 / 2)))]) (st' := []) (M' := M) (P := True) 2 rfl trivial ?_
      refine WX.forget2 (L' := [some (.ref 37), some (.int x1), some (.int x2), some (.int x3), some (.int (x4 + 1)), none, none]) ?_ ⟨Or.inr rfl, Or.inr rfl, Or.inr rfl, Or.inr rfl, Or.inr rfl, Or.inl rfl, Or.inl rfl, trivial⟩
      exact (h2 c1 c2)
    · refine WX.run (pc' := 47) (L' := [some (.ref 37), some (.int x1), some (.int x2), some (.int x3), some (.int x4), some (.int ((rem x2 4) + (rem x4 2))), some (.int ((x2 / 4) + (x4 / 2)))]) (st' := [.int x1, .int (x4 / 2)]) (M' := M) (P := (True ∧ ¬ 2 = 0)) 4 rfl ⟨trivial, (by decide)⟩ ?_
      refine WX.callS (ca := mi_M_highOf) (n := 1) (d' := 1) (st := [.int (x4 / 2)]) (As := [.int x1]) rfl lk_7_145 ck_M_highOf cs_M_highOf rfl (by decide) rfl (Nat.le_of_ble_eq_true rfl) (by intro w hw; simp only [List.mem_cons, List.not_mem_nil, or_false] at hw; rcases hw with rfl <;> rfl) (Nat.le_of_ble_eq_true rfl) ?_
      refine wx_M_highOf M x1 ?_
      show WX mi_M_cellsOf 3 Q 50 [some (.ref 37), some (.int x1), some (.int x2), some (.int x3), some (.int x4), some (.int ((rem x2 4) + (rem x4 2))), some (.int ((x2 / 4) + (x4 / 2)))] [.int (z_M_highOf x1), .int (x4 / 2)] M
      refine WX.icmp_ge (off := 28) (tgt := 78) rfl rfl (fun c3 => ?_) (fun c3 => ?_)
      · refine WX.run (pc' := 5) (L' := [some (.ref 37), some (.int x1), some (.int x2), some (.int x3), some (.int (x4 + 1)), some (.int ((rem x2 4) + (rem x4 2))), some (.int ((x2 / 4) + (x4 / 2)))]) (st' := []) (M' := M) (P := True) 2 rfl trivial ?_
        refine WX.forget2 (L' := [some (.ref 37), some (.int x1), some (.int x2), some (.int x3), some (.int (x4 + 1)), none, none]) ?_ ⟨Or.inr rfl, Or.inr rfl, Or.inr rfl, Or.inr rfl, Or.inr rfl, Or.inl rfl, Or.inl rfl, trivial⟩
        exact (h3 c1 c2 c3)
      · refine WX.run (pc' := 58) (L' := [some (.ref 37), some (.int x1), some (.int x2), some (.int x3), some (.int x4), some (.int ((rem x2 4) + (rem x4 2))), some (.int ((x2 / 4) + (x4 / 2)))]) (st' := [.int ((x2 / 4) + (x4 / 2)), .int ((rem x2 4) + (rem x4 2)), .ref 37]) (M' := M) (P := True) 3 rfl trivial ?_
        refine WX.callV (ca := mi_M_isCell) (n := 2) (d' := 2) (st := []) (As := [.int ((rem x2 4) + (rem x4 2)), .int ((x2 / 4) + (x4 / 2))]) (q := 37) rfl lk_7_131 ck_M_isCell cv_M_isCell rfl (by decide) rfl (Nat.le_of_ble_eq_true rfl) ⟨by decide, rfl, by decide⟩ (by intro w hw; simp only [List.mem_cons, List.not_mem_nil, or_false] at hw; rcases hw with rfl | rfl <;> rfl) (Nat.le_of_ble_eq_true rfl) ?_
        refine wx_M_isCell_37 M ((rem x2 4) + (rem x4 2)) ((x2 / 4) + (x4 / 2)) ?_
        show WX mi_M_cellsOf 3 Q 61 [some (.ref 37), some (.int x1), some (.int x2), some (.int x3), some (.int x4), some (.int ((rem x2 4) + (rem x4 2))), some (.int ((x2 / 4) + (x4 / 2)))] [.int (z_M_isCell_37 M ((rem x2 4) + (rem x4 2)) ((x2 / 4) + (x4 / 2)))] M
        refine WX.if_ne (off := 5) (tgt := 66) rfl rfl (fun c4 => ?_) (fun c4 => ?_)
        · refine WX.run (pc' := 5) (L' := [some (.ref 37), some (.int x1), some (.int x2), some (.int (x3 ||| (shl 1 ((4 * ((x2 / 4) + (x4 / 2))) + ((rem x2 4) + (rem x4 2)))))), some (.int (x4 + 1)), some (.int ((rem x2 4) + (rem x4 2))), some (.int ((x2 / 4) + (x4 / 2)))]) (st' := []) (M' := M) (P := True) 12 rfl trivial ?_
          refine WX.forget2 (L' := [some (.ref 37), some (.int x1), some (.int x2), some (.int (x3 ||| (shl 1 ((4 * ((x2 / 4) + (x4 / 2))) + ((rem x2 4) + (rem x4 2)))))), some (.int (x4 + 1)), none, none]) ?_ ⟨Or.inr rfl, Or.inr rfl, Or.inr rfl, Or.inr rfl, Or.inr rfl, Or.inl rfl, Or.inl rfl, trivial⟩
          exact (h4 c1 c2 c3 c4)
        · refine WX.run (pc' := 65) (L' := [some (.ref 37), some (.int x1), some (.int x2), some (.int x3), some (.int x4), some (.int ((rem x2 4) + (rem x4 2))), some (.int ((x2 / 4) + (x4 / 2)))]) (st' := [.int 0]) (M' := M) (P := True) 1 rfl trivial ?_
          exact WX.iret rfl rfl (h5 c1 c2 c3 c4)
theorem sg_M_begins_37_0 {Q : Option Value → Mem → Prop} (M : Mem) (x1 : Int32)
    (b1 : ((z_M_isCell_37 M (rem x1 4) (x1 / 4)) = 0 ∨ (z_M_isCell_37 M (rem x1 4) (x1 / 4)) = 1))
    (h2 : (z_M_isThere_37 M x1) = 0 → Q (some (.int 0)) M)
    (b3 : ¬ (z_M_isThere_37 M x1) = 0 → vp_in (16 + x1) 1257)
    (h4 : ¬ (z_M_isThere_37 M x1) = 0 → (M.1 46 (16 + x1).toNatClampNeg) = (-9) → Q (some (.int 0)) M)
    (b5 : ¬ (z_M_isThere_37 M x1) = 0 → ¬ (M.1 46 (16 + x1).toNatClampNeg) = (-9) → vp_in (16 + x1) 1257)
    (h6 : ¬ (z_M_isThere_37 M x1) = 0 → ¬ (M.1 46 (16 + x1).toNatClampNeg) = (-9) → ¬ (rem (M.1 46 (16 + x1).toNatClampNeg) 16) = x1 → Q (some (.int 0)) M)
    (h7 : ¬ (z_M_isThere_37 M x1) = 0 → ¬ (M.1 46 (16 + x1).toNatClampNeg) = (-9) → (rem (M.1 46 (16 + x1).toNatClampNeg) 16) = x1 → Q (some (.int 1)) M) :
    WX mi_M_begins 4 Q 0 [some (.ref 37), some (.int x1)] [] M := by
  refine WX.run (pc' := 2) (L' := [some (.ref 37), some (.int x1)]) (st' := [.int x1, .ref 37]) (M' := M) (P := True) 2 rfl trivial ?_
  refine WX.callV (ca := mi_M_isThere) (n := 1) (d' := 3) (st := []) (As := [.int x1]) (q := 37) rfl lk_7_148 ck_M_isThere cv_M_isThere rfl (by decide) rfl (Nat.le_of_ble_eq_true rfl) ⟨by decide, rfl, by decide⟩ (by intro w hw; simp only [List.mem_cons, List.not_mem_nil, or_false] at hw; rcases hw with rfl <;> rfl) (Nat.le_of_ble_eq_true rfl) ?_
  refine wx_M_isThere_37 M x1 b1 ?_
  show WX mi_M_begins 4 Q 5 [some (.ref 37), some (.int x1)] [.int (z_M_isThere_37 M x1)] M
  refine WX.if_eq (off := 37) (tgt := 42) rfl rfl (fun c1 => ?_) (fun c1 => ?_)
  · refine WX.run (pc' := 43) (L' := [some (.ref 37), some (.int x1)]) (st' := [.int 0]) (M' := M) (P := True) 1 rfl trivial ?_
    exact WX.zret rfl rfl (Or.inl rfl) (h2 c1)
  · refine WX.run (pc' := 19) (L' := [some (.ref 37), some (.int x1)]) (st' := [.int (-9), .int (M.1 46 (16 + x1).toNatClampNeg)]) (M' := M) (P := (True ∧ vp_in (16 + x1) 1257)) 7 rfl ⟨trivial, (b3 c1)⟩ ?_
    refine WX.icmp_eq (off := 23) (tgt := 42) rfl rfl (fun c2 => ?_) (fun c2 => ?_)
    · refine WX.run (pc' := 43) (L' := [some (.ref 37), some (.int x1)]) (st' := [.int 0]) (M' := M) (P := True) 1 rfl trivial ?_
      exact WX.zret rfl rfl (Or.inl rfl) (h4 c1 c2)
    · refine WX.run (pc' := 35) (L' := [some (.ref 37), some (.int x1)]) (st' := [.int x1, .int (rem (M.1 46 (16 + x1).toNatClampNeg) 16)]) (M' := M) (P := ((True ∧ vp_in (16 + x1) 1257) ∧ ¬ 16 = 0)) 9 rfl ⟨⟨trivial, (b5 c1 c2)⟩, (by decide)⟩ ?_
      refine WX.icmp_ne (off := 7) (tgt := 42) rfl rfl (fun c3 => ?_) (fun c3 => ?_)
      · refine WX.run (pc' := 43) (L' := [some (.ref 37), some (.int x1)]) (st' := [.int 0]) (M' := M) (P := True) 1 rfl trivial ?_
        exact WX.zret rfl rfl (Or.inl rfl) (h6 c1 c2 c3)
      · refine WX.run (pc' := 43) (L' := [some (.ref 37), some (.int x1)]) (st' := [.int 1]) (M' := M) (P := True) 2 rfl trivial ?_
        exact WX.zret rfl rfl (Or.inr rfl) (h7 c1 c2 c3)
def z_M_begins_37 (M : Mem) (x1 : Int32) : Int32 := (if (z_M_isThere_37 M x1) = 0 then 0 else (if (M.1 46 (16 + x1).toNatClampNeg) = (-9) then 0 else (if (rem (M.1 46 (16 + x1).toNatClampNeg) 16) = x1 then 1 else 0)))
theorem wx_M_begins_37 {Q : Option Value → Mem → Prop} (M : Mem) (x1 : Int32)
    (b1 : ((z_M_isCell_37 M (rem x1 4) (x1 / 4)) = 0 ∨ (z_M_isCell_37 M (rem x1 4) (x1 / 4)) = 1))
    (b3 : ¬ (z_M_isThere_37 M x1) = 0 → vp_in (16 + x1) 1257)
    (b5 : ¬ (z_M_isThere_37 M x1) = 0 → ¬ (M.1 46 (16 + x1).toNatClampNeg) = (-9) → vp_in (16 + x1) 1257)
    (h : Q (some (.int (z_M_begins_37 M x1))) M) :
    WX mi_M_begins 4 Q 0 [some (.ref 37), some (.int x1)] [] M := by
  refine sg_M_begins_37_0 M x1
    b1
    (fun c1 => by
      unfold z_M_begins_37 at h
      rw [if_pos c1] at h
      exact h)
    b3
    (fun c1 c2 => by
      unfold z_M_begins_37 at h
      rw [if_neg c1, if_pos c2] at h
      exact h)
    b5
    (fun c1 c2 c3 => by
      unfold z_M_begins_37 at h
      rw [if_neg c1, if_neg c2, if_neg c3] at h
      exact h)
    (fun c1 c2 c3 => by
      unfold z_M_begins_37 at h
      rw [if_neg c1, if_neg c2, if_pos c3] at h
      exact h)
theorem sg_M_here_37_0 {Q : Option Value → Mem → Prop} (M : Mem)
    (h1 : (M.1 37 2) ≤ (M.1 37 13) → Q (some (.int (-1))) M)
    (b2 : ¬ (M.1 37 2) ≤ (M.1 37 13) → vp_in (M.1 37 13) 150)
    (h3 : ¬ (M.1 37 2) ≤ (M.1 37 13) → Q (some (.int ((M.1 38 (M.1 37 13).toNatClampNeg) &&& 255))) M) :
    WX mi_M_here 1 Q 0 [some (.ref 37)] [] M := by
  refine WX.run (pc' := 8) (L' := [some (.ref 37)]) (st' := [.int (M.1 37 2), .int (M.1 37 13)]) (M' := M) (P := True) 4 rfl trivial ?_
  refine WX.icmp_ge (off := 19) (tgt := 27) rfl rfl (fun c1 => ?_) (fun c1 => ?_)
  · refine WX.run (pc' := 28) (L' := [some (.ref 37)]) (st' := [.int (-1)]) (M' := M) (P := True) 1 rfl trivial ?_
    exact WX.iret rfl rfl (h1 c1)
  · refine WX.run (pc' := 28) (L' := [some (.ref 37)]) (st' := [.int ((M.1 38 (M.1 37 13).toNatClampNeg) &&& 255)]) (M' := M) (P := (True ∧ vp_in (M.1 37 13) 150)) 8 rfl ⟨trivial, (b2 c1)⟩ ?_
    exact WX.iret rfl rfl (h3 c1)
def z_M_here_37 (M : Mem) : Int32 := (if (M.1 37 2) ≤ (M.1 37 13) then (-1) else ((M.1 38 (M.1 37 13).toNatClampNeg) &&& 255))
theorem wx_M_here_37 {Q : Option Value → Mem → Prop} (M : Mem)
    (b2 : ¬ (M.1 37 2) ≤ (M.1 37 13) → vp_in (M.1 37 13) 150)
    (h : Q (some (.int (z_M_here_37 M ))) M) :
    WX mi_M_here 1 Q 0 [some (.ref 37)] [] M := by
  refine sg_M_here_37_0 M 
    (fun c1 => by
      unfold z_M_here_37 at h
      rw [if_pos c1] at h
      exact h)
    b2
    (fun c1 => by
      unfold z_M_here_37 at h
      rw [if_neg c1] at h
      exact h)
theorem sg_M_step_37_0 {Q : Option Value → Mem → Prop} (M : Mem)
    (b1 : ¬ (M.1 37 2) ≤ (M.1 37 13) → vp_in (M.1 37 13) 150)
    (b2 : ¬ (z_M_here_37 M ) = 32 → ¬ ((wr (wr M 37 14 (M.1 37 13)) 37 16 0).1 37 2) ≤ ((wr (wr M 37 14 (M.1 37 13)) 37 16 0).1 37 13) → vp_in ((wr (wr M 37 14 (M.1 37 13)) 37 16 0).1 37 13) 150)
    (h3 : ¬ (z_M_here_37 M ) = 32 → 0 ≤ (z_M_here_37 (wr (wr M 37 14 (M.1 37 13)) 37 16 0) ) → (z_M_in (z_M_here_37 (wr (wr M 37 14 (M.1 37 13)) 37 16 0) ) 97 122) = 0 → (z_M_in (z_M_here_37 (wr (wr M 37 14 (M.1 37 13)) 37 16 0) ) 48 57) = 0 → ¬ (z_M_here_37 (wr (wr M 37 14 (M.1 37 13)) 37 16 0) ) = 59 → Q none (wr (wr (wr (wr M 37 14 (M.1 37 13)) 37 16 0) 37 13 ((M.1 37 13) + 1)) 37 15 4))
    (h4 : ¬ (z_M_here_37 M ) = 32 → 0 ≤ (z_M_here_37 (wr (wr M 37 14 (M.1 37 13)) 37 16 0) ) → (z_M_in (z_M_here_37 (wr (wr M 37 14 (M.1 37 13)) 37 16 0) ) 97 122) = 0 → (z_M_in (z_M_here_37 (wr (wr M 37 14 (M.1 37 13)) 37 16 0) ) 48 57) = 0 → (z_M_here_37 (wr (wr M 37 14 (M.1 37 13)) 37 16 0) ) = 59 → Q none (wr (wr (wr (wr M 37 14 (M.1 37 13)) 37 16 0) 37 13 ((M.1 37 13) + 1)) 37 15 2))
    (h5 : ¬ (z_M_here_37 M ) = 32 → 0 ≤ (z_M_here_37 (wr (wr M 37 14 (M.1 37 13)) 37 16 0) ) → (z_M_in (z_M_here_37 (wr (wr M 37 14 (M.1 37 13)) 37 16 0) ) 97 122) = 0 → ¬ (z_M_in (z_M_here_37 (wr (wr M 37 14 (M.1 37 13)) 37 16 0) ) 48 57) = 0 → WX mi_M_step 2 Q 126 [some (.ref 37), some (.int (z_M_here_37 (wr (wr M 37 14 (M.1 37 13)) 37 16 0) ))] [] (wr (wr M 37 14 (M.1 37 13)) 37 16 0))
    (h6 : ¬ (z_M_here_37 M ) = 32 → 0 ≤ (z_M_here_37 (wr (wr M 37 14 (M.1 37 13)) 37 16 0) ) → ¬ (z_M_in (z_M_here_37 (wr (wr M 37 14 (M.1 37 13)) 37 16 0) ) 97 122) = 0 → WX mi_M_step 2 Q 63 [some (.ref 37), some (.int (z_M_here_37 (wr (wr M 37 14 (M.1 37 13)) 37 16 0) ))] [] (wr (wr M 37 14 (M.1 37 13)) 37 16 0))
    (h7 : ¬ (z_M_here_37 M ) = 32 → ¬ 0 ≤ (z_M_here_37 (wr (wr M 37 14 (M.1 37 13)) 37 16 0) ) → Q none (wr (wr (wr M 37 14 (M.1 37 13)) 37 16 0) 37 15 3))
    (h8 : (z_M_here_37 M ) = 32 → WX mi_M_step 2 Q 0 [some (.ref 37), none] [] (wr M 37 13 ((M.1 37 13) + 1))) :
    WX mi_M_step 2 Q 0 [some (.ref 37), none] [] M := by
  refine WX.run (pc' := 1) (L' := [some (.ref 37), none]) (st' := [.ref 37]) (M' := M) (P := True) 1 rfl trivial ?_
  refine WX.callV (ca := mi_M_here) (n := 0) (d' := 1) (st := []) (As := []) (q := 37) rfl lk_7_83 ck_M_here cv_M_here rfl (by decide) rfl (Nat.le_of_ble_eq_true rfl) ⟨by decide, rfl, by decide⟩ (fun w hw => absurd hw List.not_mem_nil) (Nat.le_of_ble_eq_true rfl) ?_
  refine wx_M_here_37 M b1 ?_
  show WX mi_M_step 2 Q 4 [some (.ref 37), none] [.int (z_M_here_37 M )] M
  refine WX.run (pc' := 6) (L' := [some (.ref 37), none]) (st' := [.int 32, .int (z_M_here_37 M )]) (M' := M) (P := True) 1 rfl trivial ?_
  refine WX.icmp_ne (off := 16) (tgt := 22) rfl rfl (fun c1 => ?_) (fun c1 => ?_)
  · refine WX.run (pc' := 36) (L' := [some (.ref 37), none]) (st' := [.ref 37]) (M' := (wr (wr M 37 14 (M.1 37 13)) 37 16 0)) (P := True) 8 rfl trivial ?_
    refine WX.callV (ca := mi_M_here) (n := 0) (d' := 1) (st := []) (As := []) (q := 37) rfl lk_7_83 ck_M_here cv_M_here rfl (by decide) rfl (Nat.le_of_ble_eq_true rfl) ⟨by decide, rfl, by decide⟩ (fun w hw => absurd hw List.not_mem_nil) (Nat.le_of_ble_eq_true rfl) ?_
    refine wx_M_here_37 (wr (wr M 37 14 (M.1 37 13)) 37 16 0) (b2 c1) ?_
    show WX mi_M_step 2 Q 39 [some (.ref 37), none] [.int (z_M_here_37 (wr (wr M 37 14 (M.1 37 13)) 37 16 0) )] (wr (wr M 37 14 (M.1 37 13)) 37 16 0)
    refine WX.run (pc' := 41) (L' := [some (.ref 37), some (.int (z_M_here_37 (wr (wr M 37 14 (M.1 37 13)) 37 16 0) ))]) (st' := [.int (z_M_here_37 (wr (wr M 37 14 (M.1 37 13)) 37 16 0) )]) (M' := (wr (wr M 37 14 (M.1 37 13)) 37 16 0)) (P := True) 2 rfl trivial ?_
    refine WX.if_ge (off := 11) (tgt := 52) rfl rfl (fun c2 => ?_) (fun c2 => ?_)
    · refine WX.run (pc' := 57) (L' := [some (.ref 37), some (.int (z_M_here_37 (wr (wr M 37 14 (M.1 37 13)) 37 16 0) ))]) (st' := [.int 122, .int 97, .int (z_M_here_37 (wr (wr M 37 14 (M.1 37 13)) 37 16 0) )]) (M' := (wr (wr M 37 14 (M.1 37 13)) 37 16 0)) (P := True) 3 rfl trivial ?_
      refine WX.callS (ca := mi_M_in) (n := 3) (d' := 1) (st := []) (As := [.int (z_M_here_37 (wr (wr M 37 14 (M.1 37 13)) 37 16 0) ), .int 97, .int 122]) rfl lk_7_72 ck_M_in cs_M_in rfl (by decide) rfl (Nat.le_of_ble_eq_true rfl) (by intro w hw; simp only [List.mem_cons, List.not_mem_nil, or_false] at hw; rcases hw with rfl | rfl | rfl <;> rfl) (Nat.le_of_ble_eq_true rfl) ?_
      refine wx_M_in (wr (wr M 37 14 (M.1 37 13)) 37 16 0) (z_M_here_37 (wr (wr M 37 14 (M.1 37 13)) 37 16 0) ) 97 122 ?_
      show WX mi_M_step 2 Q 60 [some (.ref 37), some (.int (z_M_here_37 (wr (wr M 37 14 (M.1 37 13)) 37 16 0) ))] [.int (z_M_in (z_M_here_37 (wr (wr M 37 14 (M.1 37 13)) 37 16 0) ) 97 122)] (wr (wr M 37 14 (M.1 37 13)) 37 16 0)
      refine WX.if_eq (off := 55) (tgt := 115) rfl rfl (fun c3 => ?_) (fun c3 => ?_)
      · refine WX.run (pc' := 120) (L' := [some (.ref 37), some (.int (z_M_here_37 (wr (wr M 37 14 (M.1 37 13)) 37 16 0) ))]) (st' := [.int 57, .int 48, .int (z_M_here_37 (wr (wr M 37 14 (M.1 37 13)) 37 16 0) )]) (M' := (wr (wr M 37 14 (M.1 37 13)) 37 16 0)) (P := True) 3 rfl trivial ?_
        refine WX.callS (ca := mi_M_in) (n := 3) (d' := 1) (st := []) (As := [.int (z_M_here_37 (wr (wr M 37 14 (M.1 37 13)) 37 16 0) ), .int 48, .int 57]) rfl lk_7_72 ck_M_in cs_M_in rfl (by decide) rfl (Nat.le_of_ble_eq_true rfl) (by intro w hw; simp only [List.mem_cons, List.not_mem_nil, or_false] at hw; rcases hw with rfl | rfl | rfl <;> rfl) (Nat.le_of_ble_eq_true rfl) ?_
        refine wx_M_in (wr (wr M 37 14 (M.1 37 13)) 37 16 0) (z_M_here_37 (wr (wr M 37 14 (M.1 37 13)) 37 16 0) ) 48 57 ?_
        show WX mi_M_step 2 Q 123 [some (.ref 37), some (.int (z_M_here_37 (wr (wr M 37 14 (M.1 37 13)) 37 16 0) ))] [.int (z_M_in (z_M_here_37 (wr (wr M 37 14 (M.1 37 13)) 37 16 0) ) 48 57)] (wr (wr M 37 14 (M.1 37 13)) 37 16 0)
        refine WX.if_eq (off := 105) (tgt := 228) rfl rfl (fun c4 => ?_) (fun c4 => ?_)
        · refine WX.run (pc' := 242) (L' := [some (.ref 37), some (.int (z_M_here_37 (wr (wr M 37 14 (M.1 37 13)) 37 16 0) ))]) (st' := [.int 59, .int (z_M_here_37 (wr (wr M 37 14 (M.1 37 13)) 37 16 0) ), .ref 37]) (M' := (wr (wr (wr M 37 14 (M.1 37 13)) 37 16 0) 37 13 ((M.1 37 13) + 1))) (P := True) 9 rfl trivial ?_
          refine WX.icmp_ne (off := 7) (tgt := 249) rfl rfl (fun c5 => ?_) (fun c5 => ?_)
          · refine WX.run (pc' := 253) (L' := [some (.ref 37), some (.int (z_M_here_37 (wr (wr M 37 14 (M.1 37 13)) 37 16 0) ))]) (st' := []) (M' := (wr (wr (wr (wr M 37 14 (M.1 37 13)) 37 16 0) 37 13 ((M.1 37 13) + 1)) 37 15 4)) (P := True) 2 rfl trivial ?_
            exact WX.vret rfl rfl (h3 c1 c2 c3 c4 c5)
          · refine WX.run (pc' := 253) (L' := [some (.ref 37), some (.int (z_M_here_37 (wr (wr M 37 14 (M.1 37 13)) 37 16 0) ))]) (st' := []) (M' := (wr (wr (wr (wr M 37 14 (M.1 37 13)) 37 16 0) 37 13 ((M.1 37 13) + 1)) 37 15 2)) (P := True) 3 rfl trivial ?_
            exact WX.vret rfl rfl (h4 c1 c2 c3 c4 c5)
        · exact (h5 c1 c2 c3 c4)
      · exact (h6 c1 c2 c3)
    · refine WX.run (pc' := 253) (L' := [some (.ref 37), some (.int (z_M_here_37 (wr (wr M 37 14 (M.1 37 13)) 37 16 0) ))]) (st' := []) (M' := (wr (wr (wr M 37 14 (M.1 37 13)) 37 16 0) 37 15 3)) (P := True) 4 rfl trivial ?_
      exact WX.vret rfl rfl (h7 c1 c2)
  · refine WX.run (pc' := 0) (L' := [some (.ref 37), none]) (st' := []) (M' := (wr M 37 13 ((M.1 37 13) + 1))) (P := True) 7 rfl trivial ?_
    exact (h8 c1)
theorem sg_M_step_37_126 {Q : Option Value → Mem → Prop} (M : Mem) (x1 : Int32)
    (b1 : ¬ (M.1 37 2) ≤ (M.1 37 13) → vp_in (M.1 37 13) 150)
    (h2 : (z_M_in (z_M_here_37 M ) 48 57) = 0 → 99 < (M.1 37 16) → Q none (wr M 37 15 4))
    (h3 : (z_M_in (z_M_here_37 M ) 48 57) = 0 → ¬ 99 < (M.1 37 16) → ¬ x1 = 48 → Q none (wr M 37 15 1))
    (h4 : (z_M_in (z_M_here_37 M ) 48 57) = 0 → ¬ 99 < (M.1 37 16) → x1 = 48 → ((M.1 37 13) - (M.1 37 14)) ≤ 1 → Q none (wr M 37 15 1))
    (h5 : (z_M_in (z_M_here_37 M ) 48 57) = 0 → ¬ 99 < (M.1 37 16) → x1 = 48 → ¬ ((M.1 37 13) - (M.1 37 14)) ≤ 1 → Q none (wr M 37 15 4))
    (b6 : ¬ (z_M_in (z_M_here_37 M ) 48 57) = 0 → (M.1 37 16) ≤ 99 → ¬ (M.1 37 2) ≤ (M.1 37 13) → vp_in (M.1 37 13) 150)
    (h7 : ¬ (z_M_in (z_M_here_37 M ) 48 57) = 0 → (M.1 37 16) ≤ 99 → WX mi_M_step 2 Q 126 [some (.ref 37), some (.int x1)] [] (wr (wr M 37 16 (((10 * (M.1 37 16)) + (z_M_here_37 M )) - 48)) 37 13 ((M.1 37 13) + 1)))
    (h8 : ¬ (z_M_in (z_M_here_37 M ) 48 57) = 0 → ¬ (M.1 37 16) ≤ 99 → WX mi_M_step 2 Q 126 [some (.ref 37), some (.int x1)] [] (wr (wr M 37 16 (M.1 37 16)) 37 13 ((M.1 37 13) + 1))) :
    WX mi_M_step 2 Q 126 [some (.ref 37), some (.int x1)] [] M := by
  refine WX.run (pc' := 127) (L' := [some (.ref 37), some (.int x1)]) (st' := [.ref 37]) (M' := M) (P := True) 1 rfl trivial ?_
  refine WX.callV (ca := mi_M_here) (n := 0) (d' := 1) (st := []) (As := []) (q := 37) rfl lk_7_83 ck_M_here cv_M_here rfl (by decide) rfl (Nat.le_of_ble_eq_true rfl) ⟨by decide, rfl, by decide⟩ (fun w hw => absurd hw List.not_mem_nil) (Nat.le_of_ble_eq_true rfl) ?_
  refine wx_M_here_37 M b1 ?_
  show WX mi_M_step 2 Q 130 [some (.ref 37), some (.int x1)] [.int (z_M_here_37 M )] M
  refine WX.run (pc' := 134) (L' := [some (.ref 37), some (.int x1)]) (st' := [.int 57, .int 48, .int (z_M_here_37 M )]) (M' := M) (P := True) 2 rfl trivial ?_
  refine WX.callS (ca := mi_M_in) (n := 3) (d' := 1) (st := []) (As := [.int (z_M_here_37 M ), .int 48, .int 57]) rfl lk_7_72 ck_M_in cs_M_in rfl (by decide) rfl (Nat.le_of_ble_eq_true rfl) (by intro w hw; simp only [List.mem_cons, List.not_mem_nil, or_false] at hw; rcases hw with rfl | rfl | rfl <;> rfl) (Nat.le_of_ble_eq_true rfl) ?_
  refine wx_M_in M (z_M_here_37 M ) 48 57 ?_
  show WX mi_M_step 2 Q 137 [some (.ref 37), some (.int x1)] [.int (z_M_in (z_M_here_37 M ) 48 57)] M
  refine WX.if_eq (off := 51) (tgt := 188) rfl rfl (fun c1 => ?_) (fun c1 => ?_)
  · refine WX.run (pc' := 195) (L' := [some (.ref 37), some (.int x1)]) (st' := [.int 99, .int (M.1 37 16), .ref 37]) (M' := M) (P := True) 4 rfl trivial ?_
    refine WX.icmp_gt (off := 22) (tgt := 217) rfl rfl (fun c2 => ?_) (fun c2 => ?_)
    · refine WX.run (pc' := 253) (L' := [some (.ref 37), some (.int x1)]) (st' := []) (M' := (wr M 37 15 4)) (P := True) 4 rfl trivial ?_
      exact WX.vret rfl rfl (h2 c1 c2)
    · refine WX.run (pc' := 201) (L' := [some (.ref 37), some (.int x1)]) (st' := [.int 48, .int x1, .ref 37]) (M' := M) (P := True) 2 rfl trivial ?_
      refine WX.icmp_ne (off := 20) (tgt := 221) rfl rfl (fun c3 => ?_) (fun c3 => ?_)
      · refine WX.run (pc' := 253) (L' := [some (.ref 37), some (.int x1)]) (st' := []) (M' := (wr M 37 15 1)) (P := True) 3 rfl trivial ?_
        exact WX.vret rfl rfl (h3 c1 c2 c3)
      · refine WX.run (pc' := 214) (L' := [some (.ref 37), some (.int x1)]) (st' := [.int 1, .int ((M.1 37 13) - (M.1 37 14)), .ref 37]) (M' := M) (P := True) 6 rfl trivial ?_
        refine WX.icmp_le (off := 7) (tgt := 221) rfl rfl (fun c4 => ?_) (fun c4 => ?_)
        · refine WX.run (pc' := 253) (L' := [some (.ref 37), some (.int x1)]) (st' := []) (M' := (wr M 37 15 1)) (P := True) 3 rfl trivial ?_
          exact WX.vret rfl rfl (h4 c1 c2 c3 c4)
        · refine WX.run (pc' := 253) (L' := [some (.ref 37), some (.int x1)]) (st' := []) (M' := (wr M 37 15 4)) (P := True) 4 rfl trivial ?_
          exact WX.vret rfl rfl (h5 c1 c2 c3 c4)
  · refine WX.run (pc' := 147) (L' := [some (.ref 37), some (.int x1)]) (st' := [.int 99, .int (M.1 37 16), .ref 37]) (M' := M) (P := True) 4 rfl trivial ?_
    refine WX.icmp_le (off := 10) (tgt := 157) rfl rfl (fun c5 => ?_) (fun c5 => ?_)
    · refine WX.run (pc' := 165) (L' := [some (.ref 37), some (.int x1)]) (st' := [.ref 37, .int (10 * (M.1 37 16)), .ref 37]) (M' := M) (P := True) 5 rfl trivial ?_
      refine WX.callV (ca := mi_M_here) (n := 0) (d' := 1) (st := [.int (10 * (M.1 37 16)), .ref 37]) (As := []) (q := 37) rfl lk_7_83 ck_M_here cv_M_here rfl (by decide) rfl (Nat.le_of_ble_eq_true rfl) ⟨by decide, rfl, by decide⟩ (fun w hw => absurd hw List.not_mem_nil) (Nat.le_of_ble_eq_true rfl) ?_
      refine wx_M_here_37 M (b6 c1 c5) ?_
      show WX mi_M_step 2 Q 168 [some (.ref 37), some (.int x1)] [.int (z_M_here_37 M ), .int (10 * (M.1 37 16)), .ref 37] M
      refine WX.run (pc' := 126) (L' := [some (.ref 37), some (.int x1)]) (st' := []) (M' := (wr (wr M 37 16 (((10 * (M.1 37 16)) + (z_M_here_37 M )) - 48)) 37 13 ((M.1 37 13) + 1))) (P := True) 11 rfl trivial ?_
      exact (h7 c1 c5)
    · refine WX.run (pc' := 126) (L' := [some (.ref 37), some (.int x1)]) (st' := []) (M' := (wr (wr M 37 16 (M.1 37 16)) 37 13 ((M.1 37 13) + 1))) (P := True) 11 rfl trivial ?_
      exact (h8 c1 c5)
theorem sg_M_step_37_63 {Q : Option Value → Mem → Prop} (M : Mem) (x1 : Int32)
    (b1 : ¬ (M.1 37 2) ≤ (M.1 37 13) → vp_in (M.1 37 13) 150)
    (h2 : (z_M_in (z_M_here_37 M ) 97 122) = 0 → ¬ ((M.1 37 13) - (M.1 37 14)) = 1 → Q none (wr M 37 15 4))
    (h3 : (z_M_in (z_M_here_37 M ) 97 122) = 0 → ((M.1 37 13) - (M.1 37 14)) = 1 → Q none (wr M 37 15 x1))
    (h4 : ¬ (z_M_in (z_M_here_37 M ) 97 122) = 0 → WX mi_M_step 2 Q 63 [some (.ref 37), some (.int x1)] [] (wr M 37 13 ((M.1 37 13) + 1))) :
    WX mi_M_step 2 Q 63 [some (.ref 37), some (.int x1)] [] M := by
  refine WX.run (pc' := 64) (L' := [some (.ref 37), some (.int x1)]) (st' := [.ref 37]) (M' := M) (P := True) 1 rfl trivial ?_
  refine WX.callV (ca := mi_M_here) (n := 0) (d' := 1) (st := []) (As := []) (q := 37) rfl lk_7_83 ck_M_here cv_M_here rfl (by decide) rfl (Nat.le_of_ble_eq_true rfl) ⟨by decide, rfl, by decide⟩ (fun w hw => absurd hw List.not_mem_nil) (Nat.le_of_ble_eq_true rfl) ?_
  refine wx_M_here_37 M b1 ?_
  show WX mi_M_step 2 Q 67 [some (.ref 37), some (.int x1)] [.int (z_M_here_37 M )] M
  refine WX.run (pc' := 71) (L' := [some (.ref 37), some (.int x1)]) (st' := [.int 122, .int 97, .int (z_M_here_37 M )]) (M' := M) (P := True) 2 rfl trivial ?_
  refine WX.callS (ca := mi_M_in) (n := 3) (d' := 1) (st := []) (As := [.int (z_M_here_37 M ), .int 97, .int 122]) rfl lk_7_72 ck_M_in cs_M_in rfl (by decide) rfl (Nat.le_of_ble_eq_true rfl) (by intro w hw; simp only [List.mem_cons, List.not_mem_nil, or_false] at hw; rcases hw with rfl | rfl | rfl <;> rfl) (Nat.le_of_ble_eq_true rfl) ?_
  refine wx_M_in M (z_M_here_37 M ) 97 122 ?_
  show WX mi_M_step 2 Q 74 [some (.ref 37), some (.int x1)] [.int (z_M_in (z_M_here_37 M ) 97 122)] M
  refine WX.if_eq (off := 16) (tgt := 90) rfl rfl (fun c1 => ?_) (fun c1 => ?_)
  · refine WX.run (pc' := 101) (L' := [some (.ref 37), some (.int x1)]) (st' := [.int 1, .int ((M.1 37 13) - (M.1 37 14)), .ref 37]) (M' := M) (P := True) 7 rfl trivial ?_
    refine WX.icmp_ne (off := 7) (tgt := 108) rfl rfl (fun c2 => ?_) (fun c2 => ?_)
    · refine WX.run (pc' := 253) (L' := [some (.ref 37), some (.int x1)]) (st' := []) (M' := (wr M 37 15 4)) (P := True) 3 rfl trivial ?_
      exact WX.vret rfl rfl (h2 c1 c2)
    · refine WX.run (pc' := 253) (L' := [some (.ref 37), some (.int x1)]) (st' := []) (M' := (wr M 37 15 x1)) (P := True) 4 rfl trivial ?_
      exact WX.vret rfl rfl (h3 c1 c2)
  · refine WX.run (pc' := 63) (L' := [some (.ref 37), some (.int x1)]) (st' := []) (M' := (wr M 37 13 ((M.1 37 13) + 1))) (P := True) 7 rfl trivial ?_
    exact (h4 c1)
theorem sg_M_due_37_0 {Q : Option Value → Mem → Prop} (M : Mem) (x1 : Int32)
    (h1 : ¬ (M.1 37 17) = (-9) → Q (some (.int (M.1 37 16))) M)
    (h2 : (M.1 37 17) = (-9) → x1 = 0 → Q (some (.int (M.1 37 16))) (wr M 37 17 (M.1 37 14)))
    (h3 : (M.1 37 17) = (-9) → ¬ x1 = 0 → WX mi_M_step 2 (fun rv M' => WX mi_M_due 3 Q 22 [some (.ref 37), some (.int x1), some (.int (M.1 37 16))] (rv.toList ++ []) M') 0 [some (.ref 37), none] [] M) :
    WX mi_M_due 3 Q 0 [some (.ref 37), some (.int x1), none] [] M := by
  refine WX.run (pc' := 11) (L' := [some (.ref 37), some (.int x1), some (.int (M.1 37 16))]) (st' := [.int (-9), .int (M.1 37 17)]) (M' := M) (P := True) 6 rfl trivial ?_
  refine WX.icmp_ne (off := 22) (tgt := 33) rfl rfl (fun c1 => ?_) (fun c1 => ?_)
  · refine WX.run (pc' := 34) (L' := [some (.ref 37), some (.int x1), some (.int (M.1 37 16))]) (st' := [.int (M.1 37 16)]) (M' := M) (P := True) 1 rfl trivial ?_
    exact WX.iret rfl rfl (h1 c1)
  · refine WX.run (pc' := 15) (L' := [some (.ref 37), some (.int x1), some (.int (M.1 37 16))]) (st' := [.int x1]) (M' := M) (P := True) 1 rfl trivial ?_
    refine WX.if_eq (off := 10) (tgt := 25) rfl rfl (fun c2 => ?_) (fun c2 => ?_)
    · refine WX.run (pc' := 34) (L' := [some (.ref 37), some (.int x1), some (.int (M.1 37 16))]) (st' := [.int (M.1 37 16)]) (M' := (wr M 37 17 (M.1 37 14))) (P := True) 5 rfl trivial ?_
      exact WX.iret rfl rfl (h2 c1 c2)
    · refine WX.run (pc' := 19) (L' := [some (.ref 37), some (.int x1), some (.int (M.1 37 16))]) (st' := [.ref 37]) (M' := M) (P := True) 1 rfl trivial ?_
      refine WX.callV (ca := mi_M_step) (n := 0) (d' := 2) (st := []) (As := []) (q := 37) rfl lk_7_99 ck_M_step cv_M_step rfl (by decide) rfl (Nat.le_of_ble_eq_true rfl) ⟨by decide, rfl, by decide⟩ (fun w hw => absurd hw List.not_mem_nil) (Nat.le_of_ble_eq_true rfl) ?_
      exact (h3 c1 c2)
theorem sg_M_due_37_22 {Q : Option Value → Mem → Prop} (M : Mem) (x1 x2 : Int32)
    (h1 : Q (some (.int x2)) M) :
    WX mi_M_due 3 Q 22 [some (.ref 37), some (.int x1), some (.int x2)] [] M := by
  refine WX.run (pc' := 34) (L' := [some (.ref 37), some (.int x1), some (.int x2)]) (st' := [.int x2]) (M' := M) (P := True) 2 rfl trivial ?_
  exact WX.iret rfl rfl h1
theorem sg_M_number_37_0 {Q : Option Value → Mem → Prop} (M : Mem) (x1 x2 : Int32)
    (h1 : ¬ (M.1 37 15) = 1 → WX mi_M_due 3 (fun rv M' => WX mi_M_number 4 Q 29 [some (.ref 37), some (.int x1), some (.int x2)] (rv.toList ++ []) M') 0 [some (.ref 37), some (.int 0), none] [] M)
    (h2 : (M.1 37 15) = 1 → (z_M_in (M.1 37 16) x1 x2) = 0 → WX mi_M_due 3 (fun rv M' => WX mi_M_number 4 Q 29 [some (.ref 37), some (.int x1), some (.int x2)] (rv.toList ++ []) M') 0 [some (.ref 37), some (.int 0), none] [] M)
    (h3 : (M.1 37 15) = 1 → ¬ (z_M_in (M.1 37 16) x1 x2) = 0 → WX mi_M_due 3 (fun rv M' => WX mi_M_number 4 Q 29 [some (.ref 37), some (.int x1), some (.int x2)] (rv.toList ++ []) M') 0 [some (.ref 37), some (.int 1), none] [] M) :
    WX mi_M_number 4 Q 0 [some (.ref 37), some (.int x1), some (.int x2)] [] M := by
  refine WX.run (pc' := 6) (L' := [some (.ref 37), some (.int x1), some (.int x2)]) (st' := [.int 1, .int (M.1 37 15), .ref 37]) (M' := M) (P := True) 4 rfl trivial ?_
  refine WX.icmp_ne (off := 19) (tgt := 25) rfl rfl (fun c1 => ?_) (fun c1 => ?_)
  · refine WX.run (pc' := 26) (L' := [some (.ref 37), some (.int x1), some (.int x2)]) (st' := [.int 0, .ref 37]) (M' := M) (P := True) 1 rfl trivial ?_
    refine WX.callV (ca := mi_M_due) (n := 1) (d' := 3) (st := []) (As := [.int 0]) (q := 37) rfl lk_7_102 ck_M_due cv_M_due rfl (by decide) rfl (Nat.le_of_ble_eq_true rfl) ⟨by decide, rfl, by decide⟩ (by intro w hw; simp only [List.mem_cons, List.not_mem_nil, or_false] at hw; rcases hw with rfl <;> rfl) (Nat.le_of_ble_eq_true rfl) ?_
    exact (h1 c1)
  · refine WX.run (pc' := 15) (L' := [some (.ref 37), some (.int x1), some (.int x2)]) (st' := [.int x2, .int x1, .int (M.1 37 16), .ref 37]) (M' := M) (P := True) 4 rfl trivial ?_
    refine WX.callS (ca := mi_M_in) (n := 3) (d' := 1) (st := [.ref 37]) (As := [.int (M.1 37 16), .int x1, .int x2]) rfl lk_7_72 ck_M_in cs_M_in rfl (by decide) rfl (Nat.le_of_ble_eq_true rfl) (by intro w hw; simp only [List.mem_cons, List.not_mem_nil, or_false] at hw; rcases hw with rfl | rfl | rfl <;> rfl) (Nat.le_of_ble_eq_true rfl) ?_
    refine wx_M_in M (M.1 37 16) x1 x2 ?_
    show WX mi_M_number 4 Q 18 [some (.ref 37), some (.int x1), some (.int x2)] [.int (z_M_in (M.1 37 16) x1 x2), .ref 37] M
    refine WX.if_eq (off := 7) (tgt := 25) rfl rfl (fun c2 => ?_) (fun c2 => ?_)
    · refine WX.run (pc' := 26) (L' := [some (.ref 37), some (.int x1), some (.int x2)]) (st' := [.int 0, .ref 37]) (M' := M) (P := True) 1 rfl trivial ?_
      refine WX.callV (ca := mi_M_due) (n := 1) (d' := 3) (st := []) (As := [.int 0]) (q := 37) rfl lk_7_102 ck_M_due cv_M_due rfl (by decide) rfl (Nat.le_of_ble_eq_true rfl) ⟨by decide, rfl, by decide⟩ (by intro w hw; simp only [List.mem_cons, List.not_mem_nil, or_false] at hw; rcases hw with rfl <;> rfl) (Nat.le_of_ble_eq_true rfl) ?_
      exact (h2 c1 c2)
    · refine WX.run (pc' := 26) (L' := [some (.ref 37), some (.int x1), some (.int x2)]) (st' := [.int 1, .ref 37]) (M' := M) (P := True) 2 rfl trivial ?_
      refine WX.callV (ca := mi_M_due) (n := 1) (d' := 3) (st := []) (As := [.int 1]) (q := 37) rfl lk_7_102 ck_M_due cv_M_due rfl (by decide) rfl (Nat.le_of_ble_eq_true rfl) ⟨by decide, rfl, by decide⟩ (by intro w hw; simp only [List.mem_cons, List.not_mem_nil, or_false] at hw; rcases hw with rfl <;> rfl) (Nat.le_of_ble_eq_true rfl) ?_
      exact (h3 c1 c2)
theorem sg_M_number_37_29 {Q : Option Value → Mem → Prop} (M : Mem) (x1 x2 r : Int32)
    (h1 : Q (some (.int r)) M) :
    WX mi_M_number 4 Q 29 [some (.ref 37), some (.int x1), some (.int x2)] [.int r] M := by
  exact WX.iret rfl rfl h1
theorem sg_M_mayBe_37_0 {Q : Option Value → Mem → Prop} (M : Mem) (x1 x2 : Int32)
    (h1 : x1 = 100 → (M.1 39 1) ≤ 0 → Q (some (.int 0)) M)
    (h2 : x1 = 100 → ¬ (M.1 39 1) ≤ 0 → Q (some (.int 1)) M)
    (h3 : ¬ x1 = 100 → x1 = 108 → (M.1 39 1) ≤ 0 → Q (some (.int 0)) M)
    (h4 : ¬ x1 = 100 → x1 = 108 → ¬ (M.1 39 1) ≤ 0 → Q (some (.int 1)) M)
    (h5 : ¬ x1 = 100 → ¬ x1 = 108 → x1 = 111 → (M.1 39 1) ≤ 0 → Q (some (.int 0)) M)
    (h6 : ¬ x1 = 100 → ¬ x1 = 108 → x1 = 111 → ¬ (M.1 39 1) ≤ 0 → ¬ (M.1 37 11) = 0 → Q (some (.int 0)) M)
    (h7 : ¬ x1 = 100 → ¬ x1 = 108 → x1 = 111 → ¬ (M.1 39 1) ≤ 0 → (M.1 37 11) = 0 → Q (some (.int 1)) M)
    (h8 : ¬ x1 = 100 → ¬ x1 = 108 → ¬ x1 = 111 → x1 = 114 → (M.1 39 1) ≤ 0 → Q (some (.int 0)) M)
    (h9 : ¬ x1 = 100 → ¬ x1 = 108 → ¬ x1 = 111 → x1 = 114 → ¬ (M.1 39 1) ≤ 0 → 4 ≤ (M.1 40 1) → Q (some (.int 0)) M)
    (h10 : ¬ x1 = 100 → ¬ x1 = 108 → ¬ x1 = 111 → x1 = 114 → ¬ (M.1 39 1) ≤ 0 → ¬ 4 ≤ (M.1 40 1) → ¬ (M.1 37 10) = 0 → Q (some (.int 0)) M)
    (h11 : ¬ x1 = 100 → ¬ x1 = 108 → ¬ x1 = 111 → x1 = 114 → ¬ (M.1 39 1) ≤ 0 → ¬ 4 ≤ (M.1 40 1) → (M.1 37 10) = 0 → Q (some (.int 1)) M)
    (h12 : ¬ x1 = 100 → ¬ x1 = 108 → ¬ x1 = 111 → ¬ x1 = 114 → x1 = 115 → ¬ (M.1 37 12) = 0 → Q (some (.int 0)) M)
    (h13 : ¬ x1 = 100 → ¬ x1 = 108 → ¬ x1 = 111 → ¬ x1 = 114 → x1 = 115 → (M.1 37 12) = 0 → Q (some (.int 1)) M)
    (h14 : ¬ x1 = 100 → ¬ x1 = 108 → ¬ x1 = 111 → ¬ x1 = 114 → ¬ x1 = 115 → x1 = 119 → ¬ x2 = 0 → Q (some (.int 0)) M)
    (h15 : ¬ x1 = 100 → ¬ x1 = 108 → ¬ x1 = 111 → ¬ x1 = 114 → ¬ x1 = 115 → x1 = 119 → x2 = 0 → Q (some (.int 1)) M)
    (h16 : ¬ x1 = 100 → ¬ x1 = 108 → ¬ x1 = 111 → ¬ x1 = 114 → ¬ x1 = 115 → ¬ x1 = 119 → Q (some (.int 0)) M) :
    WX mi_M_mayBe 1 Q 0 [some (.ref 37), some (.int x1), some (.int x2)] [] M := by
  refine WX.run (pc' := 1) (L' := [some (.ref 37), some (.int x1), some (.int x2)]) (st' := [.int x1]) (M' := M) (P := True) 1 rfl trivial ?_
  by_cases c1 : x1 = 100
  · refine WX.tsw (tgt := 138) rfl (by decide) (by rw [c1]; decide) ?_
    refine WX.run (pc' := 144) (L' := [some (.ref 37), some (.int x1), some (.int x2)]) (st' := [.int (M.1 39 1)]) (M' := M) (P := (True ∧ vp_in 1 2)) 4 rfl ⟨trivial, (vp_lit rfl)⟩ ?_
    refine WX.if_le (off := 7) (tgt := 151) rfl rfl (fun c2 => ?_) (fun c2 => ?_)
    · refine WX.run (pc' := 152) (L' := [some (.ref 37), some (.int x1), some (.int x2)]) (st' := [.int 0]) (M' := M) (P := True) 1 rfl trivial ?_
      exact WX.zret rfl rfl (Or.inl rfl) (h1 c1 c2)
    · refine WX.run (pc' := 152) (L' := [some (.ref 37), some (.int x1), some (.int x2)]) (st' := [.int 1]) (M' := M) (P := True) 2 rfl trivial ?_
      exact WX.zret rfl rfl (Or.inr rfl) (h2 c1 c2)
  · skip
    by_cases c3 : x1 = 108
    · refine WX.tsw (tgt := 138) rfl (by decide) (by rw [c3]; decide) ?_
      refine WX.run (pc' := 144) (L' := [some (.ref 37), some (.int x1), some (.int x2)]) (st' := [.int (M.1 39 1)]) (M' := M) (P := (True ∧ vp_in 1 2)) 4 rfl ⟨trivial, (vp_lit rfl)⟩ ?_
      refine WX.if_le (off := 7) (tgt := 151) rfl rfl (fun c4 => ?_) (fun c4 => ?_)
      · refine WX.run (pc' := 152) (L' := [some (.ref 37), some (.int x1), some (.int x2)]) (st' := [.int 0]) (M' := M) (P := True) 1 rfl trivial ?_
        exact WX.zret rfl rfl (Or.inl rfl) (h3 c1 c3 c4)
      · refine WX.run (pc' := 152) (L' := [some (.ref 37), some (.int x1), some (.int x2)]) (st' := [.int 1]) (M' := M) (P := True) 2 rfl trivial ?_
        exact WX.zret rfl rfl (Or.inr rfl) (h4 c1 c3 c4)
    · skip
      by_cases c5 : x1 = 111
      · refine WX.tsw (tgt := 153) rfl (by decide) (by rw [c5]; decide) ?_
        refine WX.run (pc' := 159) (L' := [some (.ref 37), some (.int x1), some (.int x2)]) (st' := [.int (M.1 39 1)]) (M' := M) (P := (True ∧ vp_in 1 2)) 4 rfl ⟨trivial, (vp_lit rfl)⟩ ?_
        refine WX.if_le (off := 14) (tgt := 173) rfl rfl (fun c6 => ?_) (fun c6 => ?_)
        · refine WX.run (pc' := 174) (L' := [some (.ref 37), some (.int x1), some (.int x2)]) (st' := [.int 0]) (M' := M) (P := True) 1 rfl trivial ?_
          exact WX.zret rfl rfl (Or.inl rfl) (h5 c1 c3 c5 c6)
        · refine WX.run (pc' := 166) (L' := [some (.ref 37), some (.int x1), some (.int x2)]) (st' := [.int (M.1 37 11)]) (M' := M) (P := True) 2 rfl trivial ?_
          refine WX.if_ne (off := 7) (tgt := 173) rfl rfl (fun c7 => ?_) (fun c7 => ?_)
          · refine WX.run (pc' := 174) (L' := [some (.ref 37), some (.int x1), some (.int x2)]) (st' := [.int 0]) (M' := M) (P := True) 1 rfl trivial ?_
            exact WX.zret rfl rfl (Or.inl rfl) (h6 c1 c3 c5 c6 c7)
          · refine WX.run (pc' := 174) (L' := [some (.ref 37), some (.int x1), some (.int x2)]) (st' := [.int 1]) (M' := M) (P := True) 2 rfl trivial ?_
            exact WX.zret rfl rfl (Or.inr rfl) (h7 c1 c3 c5 c6 c7)
      · skip
        by_cases c8 : x1 = 114
        · refine WX.tsw (tgt := 106) rfl (by decide) (by rw [c8]; decide) ?_
          refine WX.run (pc' := 112) (L' := [some (.ref 37), some (.int x1), some (.int x2)]) (st' := [.int (M.1 39 1)]) (M' := M) (P := (True ∧ vp_in 1 2)) 4 rfl ⟨trivial, (vp_lit rfl)⟩ ?_
          refine WX.if_le (off := 24) (tgt := 136) rfl rfl (fun c9 => ?_) (fun c9 => ?_)
          · refine WX.run (pc' := 137) (L' := [some (.ref 37), some (.int x1), some (.int x2)]) (st' := [.int 0]) (M' := M) (P := True) 1 rfl trivial ?_
            exact WX.zret rfl rfl (Or.inl rfl) (h8 c1 c3 c5 c8 c9)
          · refine WX.run (pc' := 122) (L' := [some (.ref 37), some (.int x1), some (.int x2)]) (st' := [.int 4, .int (M.1 40 1)]) (M' := M) (P := (True ∧ vp_in 1 2)) 5 rfl ⟨trivial, (vp_lit rfl)⟩ ?_
            refine WX.icmp_ge (off := 14) (tgt := 136) rfl rfl (fun c10 => ?_) (fun c10 => ?_)
            · refine WX.run (pc' := 137) (L' := [some (.ref 37), some (.int x1), some (.int x2)]) (st' := [.int 0]) (M' := M) (P := True) 1 rfl trivial ?_
              exact WX.zret rfl rfl (Or.inl rfl) (h9 c1 c3 c5 c8 c9 c10)
            · refine WX.run (pc' := 129) (L' := [some (.ref 37), some (.int x1), some (.int x2)]) (st' := [.int (M.1 37 10)]) (M' := M) (P := True) 2 rfl trivial ?_
              refine WX.if_ne (off := 7) (tgt := 136) rfl rfl (fun c11 => ?_) (fun c11 => ?_)
              · refine WX.run (pc' := 137) (L' := [some (.ref 37), some (.int x1), some (.int x2)]) (st' := [.int 0]) (M' := M) (P := True) 1 rfl trivial ?_
                exact WX.zret rfl rfl (Or.inl rfl) (h10 c1 c3 c5 c8 c9 c10 c11)
              · refine WX.run (pc' := 137) (L' := [some (.ref 37), some (.int x1), some (.int x2)]) (st' := [.int 1]) (M' := M) (P := True) 2 rfl trivial ?_
                exact WX.zret rfl rfl (Or.inr rfl) (h11 c1 c3 c5 c8 c9 c10 c11)
        · skip
          by_cases c12 : x1 = 115
          · refine WX.tsw (tgt := 175) rfl (by decide) (by rw [c12]; decide) ?_
            refine WX.run (pc' := 179) (L' := [some (.ref 37), some (.int x1), some (.int x2)]) (st' := [.int (M.1 37 12)]) (M' := M) (P := True) 2 rfl trivial ?_
            refine WX.if_ne (off := 7) (tgt := 186) rfl rfl (fun c13 => ?_) (fun c13 => ?_)
            · refine WX.run (pc' := 187) (L' := [some (.ref 37), some (.int x1), some (.int x2)]) (st' := [.int 0]) (M' := M) (P := True) 1 rfl trivial ?_
              exact WX.zret rfl rfl (Or.inl rfl) (h12 c1 c3 c5 c8 c12 c13)
            · refine WX.run (pc' := 187) (L' := [some (.ref 37), some (.int x1), some (.int x2)]) (st' := [.int 1]) (M' := M) (P := True) 2 rfl trivial ?_
              exact WX.zret rfl rfl (Or.inr rfl) (h13 c1 c3 c5 c8 c12 c13)
          · skip
            by_cases c14 : x1 = 119
            · refine WX.tsw (tgt := 96) rfl (by decide) (by rw [c14]; decide) ?_
              refine WX.run (pc' := 97) (L' := [some (.ref 37), some (.int x1), some (.int x2)]) (st' := [.int x2]) (M' := M) (P := True) 1 rfl trivial ?_
              refine WX.if_ne (off := 7) (tgt := 104) rfl rfl (fun c15 => ?_) (fun c15 => ?_)
              · refine WX.run (pc' := 105) (L' := [some (.ref 37), some (.int x1), some (.int x2)]) (st' := [.int 0]) (M' := M) (P := True) 1 rfl trivial ?_
                exact WX.zret rfl rfl (Or.inl rfl) (h14 c1 c3 c5 c8 c12 c14 c15)
              · refine WX.run (pc' := 105) (L' := [some (.ref 37), some (.int x1), some (.int x2)]) (st' := [.int 1]) (M' := M) (P := True) 2 rfl trivial ?_
                exact WX.zret rfl rfl (Or.inr rfl) (h15 c1 c3 c5 c8 c12 c14 c15)
            · skip
              refine WX.tsw (tgt := 188) rfl (by decide) (by
                    by_cases hr : (x1).toInt < 100 ∨ 119 < (x1).toInt
                    · unfold tswo; rw [if_pos hr]; rfl
                    · have hh : (x1).toInt = 100 ∨ (x1).toInt = 101 ∨ (x1).toInt = 102 ∨ (x1).toInt = 103 ∨ (x1).toInt = 104 ∨ (x1).toInt = 105 ∨ (x1).toInt = 106 ∨ (x1).toInt = 107 ∨ (x1).toInt = 108 ∨ (x1).toInt = 109 ∨ (x1).toInt = 110 ∨ (x1).toInt = 111 ∨ (x1).toInt = 112 ∨ (x1).toInt = 113 ∨ (x1).toInt = 114 ∨ (x1).toInt = 115 ∨ (x1).toInt = 116 ∨ (x1).toInt = 117 ∨ (x1).toInt = 118 ∨ (x1).toInt = 119 := by omega
                      rcases hh with hh | hh | hh | hh | hh | hh | hh | hh | hh | hh | hh | hh | hh | hh | hh | hh | hh | hh | hh | hh
                      · exact absurd hh (i32_ne c1 (by decide))
                      · rw [hh]; rfl
                      · rw [hh]; rfl
                      · rw [hh]; rfl
                      · rw [hh]; rfl
                      · rw [hh]; rfl
                      · rw [hh]; rfl
                      · rw [hh]; rfl
                      · exact absurd hh (i32_ne c3 (by decide))
                      · rw [hh]; rfl
                      · rw [hh]; rfl
                      · exact absurd hh (i32_ne c5 (by decide))
                      · rw [hh]; rfl
                      · rw [hh]; rfl
                      · exact absurd hh (i32_ne c8 (by decide))
                      · exact absurd hh (i32_ne c12 (by decide))
                      · rw [hh]; rfl
                      · rw [hh]; rfl
                      · rw [hh]; rfl
                      · exact absurd hh (i32_ne c14 (by decide))) ?_
              refine WX.run (pc' := 189) (L' := [some (.ref 37), some (.int x1), some (.int x2)]) (st' := [.int 0]) (M' := M) (P := True) 1 rfl trivial ?_
              exact WX.zret rfl rfl (Or.inl rfl) (h16 c1 c3 c5 c8 c12 c14)
def z_M_mayBe_37 (M : Mem) (x1 x2 : Int32) : Int32 := (if x1 = 100 then (if (M.1 39 1) ≤ 0 then 0 else 1) else (if x1 = 108 then (if (M.1 39 1) ≤ 0 then 0 else 1) else (if x1 = 111 then (if (M.1 39 1) ≤ 0 then 0 else (if (M.1 37 11) = 0 then 1 else 0)) else (if x1 = 114 then (if (M.1 39 1) ≤ 0 then 0 else (if 4 ≤ (M.1 40 1) then 0 else (if (M.1 37 10) = 0 then 1 else 0))) else (if x1 = 115 then (if (M.1 37 12) = 0 then 1 else 0) else (if x1 = 119 then (if x2 = 0 then 1 else 0) else 0))))))
theorem wx_M_mayBe_37 {Q : Option Value → Mem → Prop} (M : Mem) (x1 x2 : Int32)
    (h : Q (some (.int (z_M_mayBe_37 M x1 x2))) M) :
    WX mi_M_mayBe 1 Q 0 [some (.ref 37), some (.int x1), some (.int x2)] [] M := by
  refine sg_M_mayBe_37_0 M x1 x2
    (fun c1 c2 => by
      unfold z_M_mayBe_37 at h
      rw [if_pos c1, if_pos c2] at h
      exact h)
    (fun c1 c2 => by
      unfold z_M_mayBe_37 at h
      rw [if_pos c1, if_neg c2] at h
      exact h)
    (fun c1 c2 c3 => by
      unfold z_M_mayBe_37 at h
      rw [if_neg c1, if_pos c2, if_pos c3] at h
      exact h)
    (fun c1 c2 c3 => by
      unfold z_M_mayBe_37 at h
      rw [if_neg c1, if_pos c2, if_neg c3] at h
      exact h)
    (fun c1 c2 c3 c4 => by
      unfold z_M_mayBe_37 at h
      rw [if_neg c1, if_neg c2, if_pos c3, if_pos c4] at h
      exact h)
    (fun c1 c2 c3 c4 c5 => by
      unfold z_M_mayBe_37 at h
      rw [if_neg c1, if_neg c2, if_pos c3, if_neg c4, if_neg c5] at h
      exact h)
    (fun c1 c2 c3 c4 c5 => by
      unfold z_M_mayBe_37 at h
      rw [if_neg c1, if_neg c2, if_pos c3, if_neg c4, if_pos c5] at h
      exact h)
    (fun c1 c2 c3 c4 c5 => by
      unfold z_M_mayBe_37 at h
      rw [if_neg c1, if_neg c2, if_neg c3, if_pos c4, if_pos c5] at h
      exact h)
    (fun c1 c2 c3 c4 c5 c6 => by
      unfold z_M_mayBe_37 at h
      rw [if_neg c1, if_neg c2, if_neg c3, if_pos c4, if_neg c5, if_pos c6] at h
      exact h)
    (fun c1 c2 c3 c4 c5 c6 c7 => by
      unfold z_M_mayBe_37 at h
      rw [if_neg c1, if_neg c2, if_neg c3, if_pos c4, if_neg c5, if_neg c6, if_neg c7] at h
      exact h)
    (fun c1 c2 c3 c4 c5 c6 c7 => by
      unfold z_M_mayBe_37 at h
      rw [if_neg c1, if_neg c2, if_neg c3, if_pos c4, if_neg c5, if_neg c6, if_pos c7] at h
      exact h)
    (fun c1 c2 c3 c4 c5 c6 => by
      unfold z_M_mayBe_37 at h
      rw [if_neg c1, if_neg c2, if_neg c3, if_neg c4, if_pos c5, if_neg c6] at h
      exact h)
    (fun c1 c2 c3 c4 c5 c6 => by
      unfold z_M_mayBe_37 at h
      rw [if_neg c1, if_neg c2, if_neg c3, if_neg c4, if_pos c5, if_pos c6] at h
      exact h)
    (fun c1 c2 c3 c4 c5 c6 c7 => by
      unfold z_M_mayBe_37 at h
      rw [if_neg c1, if_neg c2, if_neg c3, if_neg c4, if_neg c5, if_pos c6, if_neg c7] at h
      exact h)
    (fun c1 c2 c3 c4 c5 c6 c7 => by
      unfold z_M_mayBe_37 at h
      rw [if_neg c1, if_neg c2, if_neg c3, if_neg c4, if_neg c5, if_pos c6, if_pos c7] at h
      exact h)
    (fun c1 c2 c3 c4 c5 c6 => by
      unfold z_M_mayBe_37 at h
      rw [if_neg c1, if_neg c2, if_neg c3, if_neg c4, if_neg c5, if_neg c6] at h
      exact h)
theorem sg_M_readRow_37_0 {Q : Option Value → Mem → Prop} (M : Mem) (x1 : Int32)
    (h1 : x1 = 114 → WX mi_M_readRow 5 Q 54 [some (.ref 37), some (.int x1), none, none, some (.int 0)] [] M)
    (h2 : x1 = 115 → WX mi_M_readRow 5 Q 110 [some (.ref 37), some (.int x1), none, none, some (.int 0)] [] M)
    (h3 : x1 = 119 → WX mi_M_number 4 (fun rv M' => WX mi_M_readRow 5 Q 47 [some (.ref 37), some (.int x1), none, none, none] (rv.toList ++ [.int 1, .ref 39]) M') 0 [some (.ref 37), some (.int 1), some (.int 4)] [] M)
    (h4 : ¬ x1 = 114 → ¬ x1 = 115 → ¬ x1 = 119 → WX mi_M_number 4 (fun rv M' => WX mi_M_readRow 5 Q 157 [some (.ref 37), some (.int x1), none, none, none] (rv.toList ++ []) M') 0 [some (.ref 37), some (.int 0), some (.int ((M.1 39 1) - 1))] [] M) :
    WX mi_M_readRow 5 Q 0 [some (.ref 37), some (.int x1), none, none, none] [] M := by
  refine WX.run (pc' := 1) (L' := [some (.ref 37), some (.int x1), none, none, none]) (st' := [.int x1]) (M' := M) (P := True) 1 rfl trivial ?_
  by_cases c1 : x1 = 114
  · refine WX.lsw (off := 50) (tgt := 51) rfl (by decide) (by rw [c1]; rfl) rfl ?_
    refine WX.run (pc' := 54) (L' := [some (.ref 37), some (.int x1), none, none, some (.int 0)]) (st' := []) (M' := M) (P := True) 2 rfl trivial ?_
    exact (h1 c1)
  · skip
    by_cases c2 : x1 = 115
    · refine WX.lsw (off := 106) (tgt := 107) rfl (by decide) (by rw [c2]; rfl) rfl ?_
      refine WX.run (pc' := 110) (L' := [some (.ref 37), some (.int x1), none, none, some (.int 0)]) (st' := []) (M' := M) (P := True) 2 rfl trivial ?_
      exact (h2 c2)
    · skip
      by_cases c3 : x1 = 119
      · refine WX.lsw (off := 35) (tgt := 36) rfl (by decide) (by rw [c3]; rfl) rfl ?_
        refine WX.run (pc' := 44) (L' := [some (.ref 37), some (.int x1), none, none, none]) (st' := [.int 4, .int 1, .ref 37, .int 1, .ref 39]) (M' := M) (P := True) 6 rfl trivial ?_
        refine WX.callV (ca := mi_M_number) (n := 2) (d' := 4) (st := [.int 1, .ref 39]) (As := [.int 1, .int 4]) (q := 37) rfl lk_7_116 ck_M_number cv_M_number rfl (by decide) rfl (Nat.le_of_ble_eq_true rfl) ⟨by decide, rfl, by decide⟩ (by intro w hw; simp only [List.mem_cons, List.not_mem_nil, or_false] at hw; rcases hw with rfl | rfl <;> rfl) (Nat.le_of_ble_eq_true rfl) ?_
        exact (h3 c3)
      · skip
        refine WX.lsw (off := 143) (tgt := 144) rfl (by decide) (by show Op.lookupswitch.offset [(114, 50), (115, 106), (119, 35)] 143 x1.toInt = 143; rw [Op.lookupswitch.offset_cons, if_neg (fun q => i32_ne c1 (by decide) q.symm), Op.lookupswitch.offset_cons, if_neg (fun q => i32_ne c2 (by decide) q.symm), Op.lookupswitch.offset_cons, if_neg (fun q => i32_ne c3 (by decide) q.symm)]; rfl) rfl ?_
        refine WX.run (pc' := 154) (L' := [some (.ref 37), some (.int x1), none, none, none]) (st' := [.int ((M.1 39 1) - 1), .int 0, .ref 37]) (M' := M) (P := (True ∧ vp_in 1 2)) 8 rfl ⟨trivial, (vp_lit rfl)⟩ ?_
        refine WX.callV (ca := mi_M_number) (n := 2) (d' := 4) (st := []) (As := [.int 0, .int ((M.1 39 1) - 1)]) (q := 37) rfl lk_7_116 ck_M_number cv_M_number rfl (by decide) rfl (Nat.le_of_ble_eq_true rfl) ⟨by decide, rfl, by decide⟩ (by intro w hw; simp only [List.mem_cons, List.not_mem_nil, or_false] at hw; rcases hw with rfl | rfl <;> rfl) (Nat.le_of_ble_eq_true rfl) ?_
        exact (h4 c1 c2 c3)
theorem sg_M_readRow_37_54 {Q : Option Value → Mem → Prop} (M : Mem) (x1 x4 : Int32)
    (h1 : (M.1 39 1) ≤ x4 → Q none (wr M 40 1 ((M.1 40 1) + 1)))
    (h2 : ¬ (M.1 39 1) ≤ x4 → WX mi_M_number 4 (fun rv M' => WX mi_M_readRow 5 Q 87 [some (.ref 37), some (.int x1), none, none, some (.int x4)] (rv.toList ++ [.int ((4 * (M.1 40 1)) + x4), .ref 44]) M') 0 [some (.ref 37), some (.int 0), some (.int 9)] [] M) :
    WX mi_M_readRow 5 Q 54 [some (.ref 37), some (.int x1), none, none, some (.int x4)] [] M := by
  refine WX.run (pc' := 62) (L' := [some (.ref 37), some (.int x1), none, none, some (.int x4)]) (st' := [.int (M.1 39 1), .int x4]) (M' := M) (P := (True ∧ vp_in 1 2)) 5 rfl ⟨trivial, (vp_lit rfl)⟩ ?_
  refine WX.icmp_ge (off := 32) (tgt := 94) rfl rfl (fun c1 => ?_) (fun c1 => ?_)
  · refine WX.run (pc' := 335) (L' := [some (.ref 37), some (.int x1), none, none, some (.int x4)]) (st' := []) (M' := (wr M 40 1 ((M.1 40 1) + 1))) (P := ((True ∧ vp_in 1 2) ∧ vp_in 1 2)) 9 rfl ⟨⟨trivial, (vp_lit rfl)⟩, (vp_lit rfl)⟩ ?_
    exact WX.vret rfl rfl (h1 c1)
  · refine WX.run (pc' := 84) (L' := [some (.ref 37), some (.int x1), none, none, some (.int x4)]) (st' := [.int 9, .int 0, .ref 37, .int ((4 * (M.1 40 1)) + x4), .ref 44]) (M' := M) (P := (True ∧ vp_in 1 2)) 13 rfl ⟨trivial, (vp_lit rfl)⟩ ?_
    refine WX.callV (ca := mi_M_number) (n := 2) (d' := 4) (st := [.int ((4 * (M.1 40 1)) + x4), .ref 44]) (As := [.int 0, .int 9]) (q := 37) rfl lk_7_116 ck_M_number cv_M_number rfl (by decide) rfl (Nat.le_of_ble_eq_true rfl) ⟨by decide, rfl, by decide⟩ (by intro w hw; simp only [List.mem_cons, List.not_mem_nil, or_false] at hw; rcases hw with rfl | rfl <;> rfl) (Nat.le_of_ble_eq_true rfl) ?_
    exact (h2 c1)
theorem sg_M_readRow_37_110 {Q : Option Value → Mem → Prop} (M : Mem) (x1 x4 : Int32)
    (h1 : 4 ≤ x4 → Q none (wr M 37 12 1))
    (h2 : ¬ 4 ≤ x4 → WX mi_M_number 4 (fun rv M' => WX mi_M_readRow 5 Q 129 [some (.ref 37), some (.int x1), none, none, some (.int x4)] (rv.toList ++ [.int x4, .ref 45]) M') 0 [some (.ref 37), some (.int 0), some (.int 20)] [] M) :
    WX mi_M_readRow 5 Q 110 [some (.ref 37), some (.int x1), none, none, some (.int x4)] [] M := by
  refine WX.run (pc' := 113) (L' := [some (.ref 37), some (.int x1), none, none, some (.int x4)]) (st' := [.int 4, .int x4]) (M' := M) (P := True) 2 rfl trivial ?_
  refine WX.icmp_ge (off := 23) (tgt := 136) rfl rfl (fun c1 => ?_) (fun c1 => ?_)
  · refine WX.run (pc' := 335) (L' := [some (.ref 37), some (.int x1), none, none, some (.int x4)]) (st' := []) (M' := (wr M 37 12 1)) (P := (True ∧ (1 = 0 ∨ 1 = 1))) 4 rfl ⟨trivial, (Or.inr rfl)⟩ ?_
    exact WX.vret rfl rfl (h1 c1)
  · refine WX.run (pc' := 126) (L' := [some (.ref 37), some (.int x1), none, none, some (.int x4)]) (st' := [.int 20, .int 0, .ref 37, .int x4, .ref 45]) (M' := M) (P := True) 6 rfl trivial ?_
    refine WX.callV (ca := mi_M_number) (n := 2) (d' := 4) (st := [.int x4, .ref 45]) (As := [.int 0, .int 20]) (q := 37) rfl lk_7_116 ck_M_number cv_M_number rfl (by decide) rfl (Nat.le_of_ble_eq_true rfl) ⟨by decide, rfl, by decide⟩ (by intro w hw; simp only [List.mem_cons, List.not_mem_nil, or_false] at hw; rcases hw with rfl | rfl <;> rfl) (Nat.le_of_ble_eq_true rfl) ?_
    exact (h2 c1)
theorem sg_M_readRow_37_47 {Q : Option Value → Mem → Prop} (M : Mem) (x1 r s1 : Int32)
    (b1 : vp_in s1 2)
    (h2 : Q none (wr M 39 s1.toNatClampNeg r)) :
    WX mi_M_readRow 5 Q 47 [some (.ref 37), some (.int x1), none, none, none] [.int r, .int s1, .ref 39] M := by
  refine WX.run (pc' := 335) (L' := [some (.ref 37), some (.int x1), none, none, none]) (st' := []) (M' := (wr M 39 s1.toNatClampNeg r)) (P := (True ∧ vp_in s1 2)) 2 rfl ⟨trivial, b1⟩ ?_
  exact WX.vret rfl rfl h2
theorem sg_M_readRow_37_157 {Q : Option Value → Mem → Prop} (M : Mem) (x1 r : Int32)
    (h1 : ¬ (M.1 37 15) = 1 → WX mi_M_due 3 (fun rv M' => WX mi_M_readRow 5 Q 221 [some (.ref 37), some (.int x1), some (.int r), none, none] (rv.toList ++ []) M') 0 [some (.ref 37), some (.int 0), none] [] M)
    (h2 : (M.1 37 15) = 1 → (M.1 40 1) ≤ (M.1 37 16) → WX mi_M_due 3 (fun rv M' => WX mi_M_readRow 5 Q 221 [some (.ref 37), some (.int x1), some (.int r), none, none] (rv.toList ++ []) M') 0 [some (.ref 37), some (.int 0), none] [] M)
    (h3 : (M.1 37 15) = 1 → ¬ (M.1 40 1) ≤ (M.1 37 16) → x1 = 111 → WX mi_M_due 3 (fun rv M' => WX mi_M_readRow 5 Q 221 [some (.ref 37), some (.int x1), some (.int r), none, none] (rv.toList ++ []) M') 0 [some (.ref 37), some (.int 1), none] [] M)
    (h4 : (M.1 37 15) = 1 → ¬ (M.1 40 1) ≤ (M.1 37 16) → ¬ x1 = 111 → ¬ ((shr ((M.1 41 1) ||| (M.1 42 1)) ((4 * (M.1 37 16)) + r)) &&& 1) = 0 → WX mi_M_due 3 (fun rv M' => WX mi_M_readRow 5 Q 221 [some (.ref 37), some (.int x1), some (.int r), none, none] (rv.toList ++ []) M') 0 [some (.ref 37), some (.int 0), none] [] M)
    (h5 : (M.1 37 15) = 1 → ¬ (M.1 40 1) ≤ (M.1 37 16) → ¬ x1 = 111 → ((shr ((M.1 41 1) ||| (M.1 42 1)) ((4 * (M.1 37 16)) + r)) &&& 1) = 0 → WX mi_M_due 3 (fun rv M' => WX mi_M_readRow 5 Q 221 [some (.ref 37), some (.int x1), some (.int r), none, none] (rv.toList ++ []) M') 0 [some (.ref 37), some (.int 1), none] [] M) :
    WX mi_M_readRow 5 Q 157 [some (.ref 37), some (.int x1), none, none, none] [.int r] M := by
  refine WX.run (pc' := 164) (L' := [some (.ref 37), some (.int x1), some (.int r), none, none]) (st' := [.int 1, .int (M.1 37 15), .ref 37]) (M' := M) (P := True) 5 rfl trivial ?_
  refine WX.icmp_ne (off := 53) (tgt := 217) rfl rfl (fun c1 => ?_) (fun c1 => ?_)
  · refine WX.run (pc' := 218) (L' := [some (.ref 37), some (.int x1), some (.int r), none, none]) (st' := [.int 0, .ref 37]) (M' := M) (P := True) 1 rfl trivial ?_
    refine WX.callV (ca := mi_M_due) (n := 1) (d' := 3) (st := []) (As := [.int 0]) (q := 37) rfl lk_7_102 ck_M_due cv_M_due rfl (by decide) rfl (Nat.le_of_ble_eq_true rfl) ⟨by decide, rfl, by decide⟩ (by intro w hw; simp only [List.mem_cons, List.not_mem_nil, or_false] at hw; rcases hw with rfl <;> rfl) (Nat.le_of_ble_eq_true rfl) ?_
    exact (h1 c1)
  · refine WX.run (pc' := 177) (L' := [some (.ref 37), some (.int x1), some (.int r), none, none]) (st' := [.int (M.1 40 1), .int (M.1 37 16), .ref 37]) (M' := M) (P := (True ∧ vp_in 1 2)) 6 rfl ⟨trivial, (vp_lit rfl)⟩ ?_
    refine WX.icmp_ge (off := 40) (tgt := 217) rfl rfl (fun c2 => ?_) (fun c2 => ?_)
    · refine WX.run (pc' := 218) (L' := [some (.ref 37), some (.int x1), some (.int r), none, none]) (st' := [.int 0, .ref 37]) (M' := M) (P := True) 1 rfl trivial ?_
      refine WX.callV (ca := mi_M_due) (n := 1) (d' := 3) (st := []) (As := [.int 0]) (q := 37) rfl lk_7_102 ck_M_due cv_M_due rfl (by decide) rfl (Nat.le_of_ble_eq_true rfl) ⟨by decide, rfl, by decide⟩ (by intro w hw; simp only [List.mem_cons, List.not_mem_nil, or_false] at hw; rcases hw with rfl <;> rfl) (Nat.le_of_ble_eq_true rfl) ?_
      exact (h2 c1 c2)
    · refine WX.run (pc' := 183) (L' := [some (.ref 37), some (.int x1), some (.int r), none, none]) (st' := [.int 111, .int x1, .ref 37]) (M' := M) (P := True) 2 rfl trivial ?_
      refine WX.icmp_eq (off := 30) (tgt := 213) rfl rfl (fun c3 => ?_) (fun c3 => ?_)
      · refine WX.run (pc' := 218) (L' := [some (.ref 37), some (.int x1), some (.int r), none, none]) (st' := [.int 1, .ref 37]) (M' := M) (P := True) 2 rfl trivial ?_
        refine WX.callV (ca := mi_M_due) (n := 1) (d' := 3) (st := []) (As := [.int 1]) (q := 37) rfl lk_7_102 ck_M_due cv_M_due rfl (by decide) rfl (Nat.le_of_ble_eq_true rfl) ⟨by decide, rfl, by decide⟩ (by intro w hw; simp only [List.mem_cons, List.not_mem_nil, or_false] at hw; rcases hw with rfl <;> rfl) (Nat.le_of_ble_eq_true rfl) ?_
        exact (h3 c1 c2 c3)
      · refine WX.run (pc' := 210) (L' := [some (.ref 37), some (.int x1), some (.int r), none, none]) (st' := [.int ((shr ((M.1 41 1) ||| (M.1 42 1)) ((4 * (M.1 37 16)) + r)) &&& 1), .ref 37]) (M' := M) (P := ((True ∧ vp_in 1 2) ∧ vp_in 1 2)) 18 rfl ⟨⟨trivial, (vp_lit rfl)⟩, (vp_lit rfl)⟩ ?_
        refine WX.if_ne (off := 7) (tgt := 217) rfl rfl (fun c4 => ?_) (fun c4 => ?_)
        · refine WX.run (pc' := 218) (L' := [some (.ref 37), some (.int x1), some (.int r), none, none]) (st' := [.int 0, .ref 37]) (M' := M) (P := True) 1 rfl trivial ?_
          refine WX.callV (ca := mi_M_due) (n := 1) (d' := 3) (st := []) (As := [.int 0]) (q := 37) rfl lk_7_102 ck_M_due cv_M_due rfl (by decide) rfl (Nat.le_of_ble_eq_true rfl) ⟨by decide, rfl, by decide⟩ (by intro w hw; simp only [List.mem_cons, List.not_mem_nil, or_false] at hw; rcases hw with rfl <;> rfl) (Nat.le_of_ble_eq_true rfl) ?_
          exact (h4 c1 c2 c3 c4)
        · refine WX.run (pc' := 218) (L' := [some (.ref 37), some (.int x1), some (.int r), none, none]) (st' := [.int 1, .ref 37]) (M' := M) (P := True) 2 rfl trivial ?_
          refine WX.callV (ca := mi_M_due) (n := 1) (d' := 3) (st := []) (As := [.int 1]) (q := 37) rfl lk_7_102 ck_M_due cv_M_due rfl (by decide) rfl (Nat.le_of_ble_eq_true rfl) ⟨by decide, rfl, by decide⟩ (by intro w hw; simp only [List.mem_cons, List.not_mem_nil, or_false] at hw; rcases hw with rfl <;> rfl) (Nat.le_of_ble_eq_true rfl) ?_
          exact (h5 c1 c2 c3 c4)
theorem sg_M_readRow_37_87 {Q : Option Value → Mem → Prop} (M : Mem) (x1 x4 r s1 : Int32)
    (b1 : vp_in s1 16)
    (h2 : WX mi_M_readRow 5 Q 54 [some (.ref 37), some (.int x1), none, none, some (.int (x4 + 1))] [] (wr M 44 s1.toNatClampNeg r)) :
    WX mi_M_readRow 5 Q 87 [some (.ref 37), some (.int x1), none, none, some (.int x4)] [.int r, .int s1, .ref 44] M := by
  refine WX.run (pc' := 54) (L' := [some (.ref 37), some (.int x1), none, none, some (.int (x4 + 1))]) (st' := []) (M' := (wr M 44 s1.toNatClampNeg r)) (P := (True ∧ vp_in s1 16)) 3 rfl ⟨trivial, b1⟩ ?_
  exact h2
theorem sg_M_readRow_37_129 {Q : Option Value → Mem → Prop} (M : Mem) (x1 x4 r s1 : Int32)
    (b1 : vp_in s1 4)
    (h2 : WX mi_M_readRow 5 Q 110 [some (.ref 37), some (.int x1), none, none, some (.int (x4 + 1))] [] (wr M 45 s1.toNatClampNeg r)) :
    WX mi_M_readRow 5 Q 129 [some (.ref 37), some (.int x1), none, none, some (.int x4)] [.int r, .int s1, .ref 45] M := by
  refine WX.run (pc' := 110) (L' := [some (.ref 37), some (.int x1), none, none, some (.int (x4 + 1))]) (st' := []) (M' := (wr M 45 s1.toNatClampNeg r)) (P := (True ∧ vp_in s1 4)) 3 rfl ⟨trivial, b1⟩ ?_
  exact h2
theorem sg_M_readRow_37_221 {Q : Option Value → Mem → Prop} (M : Mem) (x1 x2 r : Int32)
    (h1 : ¬ (M.1 37 17) = (-9) → Q none (wr M 37 10 1))
    (h2 : (M.1 37 17) = (-9) → ¬ x1 = 108 → ¬ x1 = 100 → ¬ x1 = 111 → ¬ (M.1 37 11) = 0 → Q none (wr (wr (wr (wr (wr M 37 10 1) 41 1 ((M.1 41 1) ||| 0)) 42 1 ((M.1 42 1) ||| 0)) 43 1 (M.1 43 1)) 37 11 1))
    (h3 : (M.1 37 17) = (-9) → ¬ x1 = 108 → ¬ x1 = 100 → ¬ x1 = 111 → (M.1 37 11) = 0 → ¬ x1 = 111 → Q none (wr (wr (wr (wr (wr M 37 10 1) 41 1 ((M.1 41 1) ||| 0)) 42 1 ((M.1 42 1) ||| 0)) 43 1 (M.1 43 1)) 37 11 0))
    (h4 : (M.1 37 17) = (-9) → ¬ x1 = 108 → ¬ x1 = 100 → ¬ x1 = 111 → (M.1 37 11) = 0 → x1 = 111 → Q none (wr (wr (wr (wr (wr M 37 10 1) 41 1 ((M.1 41 1) ||| 0)) 42 1 ((M.1 42 1) ||| 0)) 43 1 (M.1 43 1)) 37 11 1))
    (h5 : (M.1 37 17) = (-9) → ¬ x1 = 108 → ¬ x1 = 100 → x1 = 111 → ¬ (M.1 37 11) = 0 → Q none (wr (wr (wr (wr (wr M 37 10 1) 41 1 ((M.1 41 1) ||| 0)) 42 1 ((M.1 42 1) ||| 0)) 43 1 ((4 * r) + x2)) 37 11 1))
    (h6 : (M.1 37 17) = (-9) → ¬ x1 = 108 → ¬ x1 = 100 → x1 = 111 → (M.1 37 11) = 0 → ¬ x1 = 111 → Q none (wr (wr (wr (wr (wr M 37 10 1) 41 1 ((M.1 41 1) ||| 0)) 42 1 ((M.1 42 1) ||| 0)) 43 1 ((4 * r) + x2)) 37 11 0))
    (h7 : (M.1 37 17) = (-9) → ¬ x1 = 108 → ¬ x1 = 100 → x1 = 111 → (M.1 37 11) = 0 → x1 = 111 → Q none (wr (wr (wr (wr (wr M 37 10 1) 41 1 ((M.1 41 1) ||| 0)) 42 1 ((M.1 42 1) ||| 0)) 43 1 ((4 * r) + x2)) 37 11 1))
    (h8 : (M.1 37 17) = (-9) → ¬ x1 = 108 → x1 = 100 → ¬ x1 = 111 → ¬ (M.1 37 11) = 0 → Q none (wr (wr (wr (wr (wr M 37 10 1) 41 1 ((M.1 41 1) ||| 0)) 42 1 ((M.1 42 1) ||| (shl 1 ((4 * r) + x2)))) 43 1 (M.1 43 1)) 37 11 1))
    (h9 : (M.1 37 17) = (-9) → ¬ x1 = 108 → x1 = 100 → ¬ x1 = 111 → (M.1 37 11) = 0 → ¬ x1 = 111 → Q none (wr (wr (wr (wr (wr M 37 10 1) 41 1 ((M.1 41 1) ||| 0)) 42 1 ((M.1 42 1) ||| (shl 1 ((4 * r) + x2)))) 43 1 (M.1 43 1)) 37 11 0))
    (h10 : (M.1 37 17) = (-9) → ¬ x1 = 108 → x1 = 100 → ¬ x1 = 111 → (M.1 37 11) = 0 → x1 = 111 → Q none (wr (wr (wr (wr (wr M 37 10 1) 41 1 ((M.1 41 1) ||| 0)) 42 1 ((M.1 42 1) ||| (shl 1 ((4 * r) + x2)))) 43 1 (M.1 43 1)) 37 11 1))
    (h11 : (M.1 37 17) = (-9) → ¬ x1 = 108 → x1 = 100 → x1 = 111 → ¬ (M.1 37 11) = 0 → Q none (wr (wr (wr (wr (wr M 37 10 1) 41 1 ((M.1 41 1) ||| 0)) 42 1 ((M.1 42 1) ||| (shl 1 ((4 * r) + x2)))) 43 1 ((4 * r) + x2)) 37 11 1))
    (h12 : (M.1 37 17) = (-9) → ¬ x1 = 108 → x1 = 100 → x1 = 111 → (M.1 37 11) = 0 → ¬ x1 = 111 → Q none (wr (wr (wr (wr (wr M 37 10 1) 41 1 ((M.1 41 1) ||| 0)) 42 1 ((M.1 42 1) ||| (shl 1 ((4 * r) + x2)))) 43 1 ((4 * r) + x2)) 37 11 0))
    (h13 : (M.1 37 17) = (-9) → ¬ x1 = 108 → x1 = 100 → x1 = 111 → (M.1 37 11) = 0 → x1 = 111 → Q none (wr (wr (wr (wr (wr M 37 10 1) 41 1 ((M.1 41 1) ||| 0)) 42 1 ((M.1 42 1) ||| (shl 1 ((4 * r) + x2)))) 43 1 ((4 * r) + x2)) 37 11 1))
    (h14 : (M.1 37 17) = (-9) → x1 = 108 → ¬ x1 = 100 → ¬ x1 = 111 → ¬ (M.1 37 11) = 0 → Q none (wr (wr (wr (wr (wr M 37 10 1) 41 1 ((M.1 41 1) ||| (shl 1 ((4 * r) + x2)))) 42 1 ((M.1 42 1) ||| 0)) 43 1 (M.1 43 1)) 37 11 1))
    (h15 : (M.1 37 17) = (-9) → x1 = 108 → ¬ x1 = 100 → ¬ x1 = 111 → (M.1 37 11) = 0 → ¬ x1 = 111 → Q none (wr (wr (wr (wr (wr M 37 10 1) 41 1 ((M.1 41 1) ||| (shl 1 ((4 * r) + x2)))) 42 1 ((M.1 42 1) ||| 0)) 43 1 (M.1 43 1)) 37 11 0))
    (h16 : (M.1 37 17) = (-9) → x1 = 108 → ¬ x1 = 100 → ¬ x1 = 111 → (M.1 37 11) = 0 → x1 = 111 → Q none (wr (wr (wr (wr (wr M 37 10 1) 41 1 ((M.1 41 1) ||| (shl 1 ((4 * r) + x2)))) 42 1 ((M.1 42 1) ||| 0)) 43 1 (M.1 43 1)) 37 11 1))
    (h17 : (M.1 37 17) = (-9) → x1 = 108 → ¬ x1 = 100 → x1 = 111 → ¬ (M.1 37 11) = 0 → Q none (wr (wr (wr (wr (wr M 37 10 1) 41 1 ((M.1 41 1) ||| (shl 1 ((4 * r) + x2)))) 42 1 ((M.1 42 1) ||| 0)) 43 1 ((4 * r) + x2)) 37 11 1))
    (h18 : (M.1 37 17) = (-9) → x1 = 108 → ¬ x1 = 100 → x1 = 111 → (M.1 37 11) = 0 → ¬ x1 = 111 → Q none (wr (wr (wr (wr (wr M 37 10 1) 41 1 ((M.1 41 1) ||| (shl 1 ((4 * r) + x2)))) 42 1 ((M.1 42 1) ||| 0)) 43 1 ((4 * r) + x2)) 37 11 0))
    (h19 : (M.1 37 17) = (-9) → x1 = 108 → ¬ x1 = 100 → x1 = 111 → (M.1 37 11) = 0 → x1 = 111 → Q none (wr (wr (wr (wr (wr M 37 10 1) 41 1 ((M.1 41 1) ||| (shl 1 ((4 * r) + x2)))) 42 1 ((M.1 42 1) ||| 0)) 43 1 ((4 * r) + x2)) 37 11 1))
    (h20 : (M.1 37 17) = (-9) → x1 = 108 → x1 = 100 → ¬ x1 = 111 → ¬ (M.1 37 11) = 0 → Q none (wr (wr (wr (wr (wr M 37 10 1) 41 1 ((M.1 41 1) ||| (shl 1 ((4 * r) + x2)))) 42 1 ((M.1 42 1) ||| (shl 1 ((4 * r) + x2)))) 43 1 (M.1 43 1)) 37 11 1))
    (h21 : (M.1 37 17) = (-9) → x1 = 108 → x1 = 100 → ¬ x1 = 111 → (M.1 37 11) = 0 → ¬ x1 = 111 → Q none (wr (wr (wr (wr (wr M 37 10 1) 41 1 ((M.1 41 1) ||| (shl 1 ((4 * r) + x2)))) 42 1 ((M.1 42 1) ||| (shl 1 ((4 * r) + x2)))) 43 1 (M.1 43 1)) 37 11 0))
    (h22 : (M.1 37 17) = (-9) → x1 = 108 → x1 = 100 → ¬ x1 = 111 → (M.1 37 11) = 0 → x1 = 111 → Q none (wr (wr (wr (wr (wr M 37 10 1) 41 1 ((M.1 41 1) ||| (shl 1 ((4 * r) + x2)))) 42 1 ((M.1 42 1) ||| (shl 1 ((4 * r) + x2)))) 43 1 (M.1 43 1)) 37 11 1))
    (h23 : (M.1 37 17) = (-9) → x1 = 108 → x1 = 100 → x1 = 111 → ¬ (M.1 37 11) = 0 → Q none (wr (wr (wr (wr (wr M 37 10 1) 41 1 ((M.1 41 1) ||| (shl 1 ((4 * r) + x2)))) 42 1 ((M.1 42 1) ||| (shl 1 ((4 * r) + x2)))) 43 1 ((4 * r) + x2)) 37 11 1))
    (h24 : (M.1 37 17) = (-9) → x1 = 108 → x1 = 100 → x1 = 111 → (M.1 37 11) = 0 → ¬ x1 = 111 → Q none (wr (wr (wr (wr (wr M 37 10 1) 41 1 ((M.1 41 1) ||| (shl 1 ((4 * r) + x2)))) 42 1 ((M.1 42 1) ||| (shl 1 ((4 * r) + x2)))) 43 1 ((4 * r) + x2)) 37 11 0))
    (h25 : (M.1 37 17) = (-9) → x1 = 108 → x1 = 100 → x1 = 111 → (M.1 37 11) = 0 → x1 = 111 → Q none (wr (wr (wr (wr (wr M 37 10 1) 41 1 ((M.1 41 1) ||| (shl 1 ((4 * r) + x2)))) 42 1 ((M.1 42 1) ||| (shl 1 ((4 * r) + x2)))) 43 1 ((4 * r) + x2)) 37 11 1)) :
    WX mi_M_readRow 5 Q 221 [some (.ref 37), some (.int x1), some (.int x2), none, none] [.int r] M := by
  refine WX.run (pc' := 233) (L' := [some (.ref 37), some (.int x1), some (.int x2), some (.int r), none]) (st' := [.int (-9), .int (M.1 37 17)]) (M' := (wr M 37 10 1)) (P := (True ∧ (1 = 0 ∨ 1 = 1))) 7 rfl ⟨trivial, (Or.inr rfl)⟩ ?_
  refine WX.icmp_ne (off := 102) (tgt := 335) rfl rfl (fun c1 => ?_) (fun c1 => ?_)
  · exact WX.vret rfl rfl (h1 c1)
  · refine WX.run (pc' := 255) (L' := [some (.ref 37), some (.int x1), some (.int x2), some (.int r), some (.int (shl 1 ((4 * r) + x2)))]) (st' := [.int 108, .int x1, .int (M.1 41 1), .int 1, .ref 41]) (M' := (wr M 37 10 1)) (P := (True ∧ vp_in 1 2)) 15 rfl ⟨trivial, (vp_lit rfl)⟩ ?_
    refine WX.icmp_ne (off := 8) (tgt := 263) rfl rfl (fun c2 => ?_) (fun c2 => ?_)
    · refine WX.run (pc' := 276) (L' := [some (.ref 37), some (.int x1), some (.int x2), some (.int r), some (.int (shl 1 ((4 * r) + x2)))]) (st' := [.int 100, .int x1, .int (M.1 42 1), .int 1, .ref 42]) (M' := (wr (wr M 37 10 1) 41 1 ((M.1 41 1) ||| 0))) (P := ((True ∧ vp_in 1 2) ∧ vp_in 1 2)) 10 rfl ⟨⟨trivial, (vp_lit rfl)⟩, (vp_lit rfl)⟩ ?_
      refine WX.icmp_ne (off := 8) (tgt := 284) rfl rfl (fun c3 => ?_) (fun c3 => ?_)
      · refine WX.run (pc' := 295) (L' := [some (.ref 37), some (.int x1), some (.int x2), some (.int r), some (.int (shl 1 ((4 * r) + x2)))]) (st' := [.int 111, .int x1, .int 1, .ref 43]) (M' := (wr (wr (wr M 37 10 1) 41 1 ((M.1 41 1) ||| 0)) 42 1 ((M.1 42 1) ||| 0))) (P := (True ∧ vp_in 1 2)) 8 rfl ⟨trivial, (vp_lit rfl)⟩ ?_
        refine WX.icmp_ne (off := 11) (tgt := 306) rfl rfl (fun c4 => ?_) (fun c4 => ?_)
        · refine WX.run (pc' := 318) (L' := [some (.ref 37), some (.int x1), some (.int x2), some (.int r), some (.int (shl 1 ((4 * r) + x2)))]) (st' := [.int (M.1 37 11), .ref 37]) (M' := (wr (wr (wr (wr M 37 10 1) 41 1 ((M.1 41 1) ||| 0)) 42 1 ((M.1 42 1) ||| 0)) 43 1 (M.1 43 1))) (P := ((True ∧ vp_in 1 2) ∧ vp_in 1 2)) 8 rfl ⟨⟨trivial, (vp_lit rfl)⟩, (vp_lit rfl)⟩ ?_
          refine WX.if_ne (off := 9) (tgt := 327) rfl rfl (fun c5 => ?_) (fun c5 => ?_)
          · refine WX.run (pc' := 335) (L' := [some (.ref 37), some (.int x1), some (.int x2), some (.int r), some (.int (shl 1 ((4 * r) + x2)))]) (st' := []) (M' := (wr (wr (wr (wr (wr M 37 10 1) 41 1 ((M.1 41 1) ||| 0)) 42 1 ((M.1 42 1) ||| 0)) 43 1 (M.1 43 1)) 37 11 1)) (P := (True ∧ (1 = 0 ∨ 1 = 1))) 3 rfl ⟨trivial, (Or.inr rfl)⟩ ?_
            exact WX.vret rfl rfl (h2 c1 c2 c3 c4 c5)
          · refine WX.run (pc' := 324) (L' := [some (.ref 37), some (.int x1), some (.int x2), some (.int r), some (.int (shl 1 ((4 * r) + x2)))]) (st' := [.int 111, .int x1, .ref 37]) (M' := (wr (wr (wr (wr M 37 10 1) 41 1 ((M.1 41 1) ||| 0)) 42 1 ((M.1 42 1) ||| 0)) 43 1 (M.1 43 1))) (P := True) 2 rfl trivial ?_
            refine WX.icmp_ne (off := 7) (tgt := 331) rfl rfl (fun c6 => ?_) (fun c6 => ?_)
            · refine WX.run (pc' := 335) (L' := [some (.ref 37), some (.int x1), some (.int x2), some (.int r), some (.int (shl 1 ((4 * r) + x2)))]) (st' := []) (M' := (wr (wr (wr (wr (wr M 37 10 1) 41 1 ((M.1 41 1) ||| 0)) 42 1 ((M.1 42 1) ||| 0)) 43 1 (M.1 43 1)) 37 11 0)) (P := (True ∧ (0 = 0 ∨ 0 = 1))) 2 rfl ⟨trivial, (Or.inl rfl)⟩ ?_
              exact WX.vret rfl rfl (h3 c1 c2 c3 c4 c5 c6)
            · refine WX.run (pc' := 335) (L' := [some (.ref 37), some (.int x1), some (.int x2), some (.int r), some (.int (shl 1 ((4 * r) + x2)))]) (st' := []) (M' := (wr (wr (wr (wr (wr M 37 10 1) 41 1 ((M.1 41 1) ||| 0)) 42 1 ((M.1 42 1) ||| 0)) 43 1 (M.1 43 1)) 37 11 1)) (P := (True ∧ (1 = 0 ∨ 1 = 1))) 3 rfl ⟨trivial, (Or.inr rfl)⟩ ?_
              exact WX.vret rfl rfl (h4 c1 c2 c3 c4 c5 c6)
        · refine WX.run (pc' := 318) (L' := [some (.ref 37), some (.int x1), some (.int x2), some (.int r), some (.int (shl 1 ((4 * r) + x2)))]) (st' := [.int (M.1 37 11), .ref 37]) (M' := (wr (wr (wr (wr M 37 10 1) 41 1 ((M.1 41 1) ||| 0)) 42 1 ((M.1 42 1) ||| 0)) 43 1 ((4 * r) + x2))) (P := (True ∧ vp_in 1 2)) 10 rfl ⟨trivial, (vp_lit rfl)⟩ ?_
          refine WX.if_ne (off := 9) (tgt := 327) rfl rfl (fun c7 => ?_) (fun c7 => ?_)
          · refine WX.run (pc' := 335) (L' := [some (.ref 37), some (.int x1), some (.int x2), some (.int r), some (.int (shl 1 ((4 * r) + x2)))]) (st' := []) (M' := (wr (wr (wr (wr (wr M 37 10 1) 41 1 ((M.1 41 1) ||| 0)) 42 1 ((M.1 42 1) ||| 0)) 43 1 ((4 * r) + x2)) 37 11 1)) (P := (True ∧ (1 = 0 ∨ 1 = 1))) 3 rfl ⟨trivial, (Or.inr rfl)⟩ ?_
            exact WX.vret rfl rfl (h5 c1 c2 c3 c4 c7)
          · refine WX.run (pc' := 324) (L' := [some (.ref 37), some (.int x1), some (.int x2), some (.int r), some (.int (shl 1 ((4 * r) + x2)))]) (st' := [.int 111, .int x1, .ref 37]) (M' := (wr (wr (wr (wr M 37 10 1) 41 1 ((M.1 41 1) ||| 0)) 42 1 ((M.1 42 1) ||| 0)) 43 1 ((4 * r) + x2))) (P := True) 2 rfl trivial ?_
            refine WX.icmp_ne (off := 7) (tgt := 331) rfl rfl (fun c8 => ?_) (fun c8 => ?_)
            · refine WX.run (pc' := 335) (L' := [some (.ref 37), some (.int x1), some (.int x2), some (.int r), some (.int (shl 1 ((4 * r) + x2)))]) (st' := []) (M' := (wr (wr (wr (wr (wr M 37 10 1) 41 1 ((M.1 41 1) ||| 0)) 42 1 ((M.1 42 1) ||| 0)) 43 1 ((4 * r) + x2)) 37 11 0)) (P := (True ∧ (0 = 0 ∨ 0 = 1))) 2 rfl ⟨trivial, (Or.inl rfl)⟩ ?_
              exact WX.vret rfl rfl (h6 c1 c2 c3 c4 c7 c8)
            · refine WX.run (pc' := 335) (L' := [some (.ref 37), some (.int x1), some (.int x2), some (.int r), some (.int (shl 1 ((4 * r) + x2)))]) (st' := []) (M' := (wr (wr (wr (wr (wr M 37 10 1) 41 1 ((M.1 41 1) ||| 0)) 42 1 ((M.1 42 1) ||| 0)) 43 1 ((4 * r) + x2)) 37 11 1)) (P := (True ∧ (1 = 0 ∨ 1 = 1))) 3 rfl ⟨trivial, (Or.inr rfl)⟩ ?_
              exact WX.vret rfl rfl (h7 c1 c2 c3 c4 c7 c8)
      · refine WX.run (pc' := 295) (L' := [some (.ref 37), some (.int x1), some (.int x2), some (.int r), some (.int (shl 1 ((4 * r) + x2)))]) (st' := [.int 111, .int x1, .int 1, .ref 43]) (M' := (wr (wr (wr M 37 10 1) 41 1 ((M.1 41 1) ||| 0)) 42 1 ((M.1 42 1) ||| (shl 1 ((4 * r) + x2))))) (P := (True ∧ vp_in 1 2)) 9 rfl ⟨trivial, (vp_lit rfl)⟩ ?_
        refine WX.icmp_ne (off := 11) (tgt := 306) rfl rfl (fun c9 => ?_) (fun c9 => ?_)
        · refine WX.run (pc' := 318) (L' := [some (.ref 37), some (.int x1), some (.int x2), some (.int r), some (.int (shl 1 ((4 * r) + x2)))]) (st' := [.int (M.1 37 11), .ref 37]) (M' := (wr (wr (wr (wr M 37 10 1) 41 1 ((M.1 41 1) ||| 0)) 42 1 ((M.1 42 1) ||| (shl 1 ((4 * r) + x2)))) 43 1 (M.1 43 1))) (P := ((True ∧ vp_in 1 2) ∧ vp_in 1 2)) 8 rfl ⟨⟨trivial, (vp_lit rfl)⟩, (vp_lit rfl)⟩ ?_
          refine WX.if_ne (off := 9) (tgt := 327) rfl rfl (fun c10 => ?_) (fun c10 => ?_)
          · refine WX.run (pc' := 335) (L' := [some (.ref 37), some (.int x1), some (.int x2), some (.int r), some (.int (shl 1 ((4 * r) + x2)))]) (st' := []) (M' := (wr (wr (wr (wr (wr M 37 10 1) 41 1 ((M.1 41 1) ||| 0)) 42 1 ((M.1 42 1) ||| (shl 1 ((4 * r) + x2)))) 43 1 (M.1 43 1)) 37 11 1)) (P := (True ∧ (1 = 0 ∨ 1 = 1))) 3 rfl ⟨trivial, (Or.inr rfl)⟩ ?_
            exact WX.vret rfl rfl (h8 c1 c2 c3 c9 c10)
          · refine WX.run (pc' := 324) (L' := [some (.ref 37), some (.int x1), some (.int x2), some (.int r), some (.int (shl 1 ((4 * r) + x2)))]) (st' := [.int 111, .int x1, .ref 37]) (M' := (wr (wr (wr (wr M 37 10 1) 41 1 ((M.1 41 1) ||| 0)) 42 1 ((M.1 42 1) ||| (shl 1 ((4 * r) + x2)))) 43 1 (M.1 43 1))) (P := True) 2 rfl trivial ?_
            refine WX.icmp_ne (off := 7) (tgt := 331) rfl rfl (fun c11 => ?_) (fun c11 => ?_)
            · refine WX.run (pc' := 335) (L' := [some (.ref 37), some (.int x1), some (.int x2), some (.int r), some (.int (shl 1 ((4 * r) + x2)))]) (st' := []) (M' := (wr (wr (wr (wr (wr M 37 10 1) 41 1 ((M.1 41 1) ||| 0)) 42 1 ((M.1 42 1) ||| (shl 1 ((4 * r) + x2)))) 43 1 (M.1 43 1)) 37 11 0)) (P := (True ∧ (0 = 0 ∨ 0 = 1))) 2 rfl ⟨trivial, (Or.inl rfl)⟩ ?_
              exact WX.vret rfl rfl (h9 c1 c2 c3 c9 c10 c11)
            · refine WX.run (pc' := 335) (L' := [some (.ref 37), some (.int x1), some (.int x2), some (.int r), some (.int (shl 1 ((4 * r) + x2)))]) (st' := []) (M' := (wr (wr (wr (wr (wr M 37 10 1) 41 1 ((M.1 41 1) ||| 0)) 42 1 ((M.1 42 1) ||| (shl 1 ((4 * r) + x2)))) 43 1 (M.1 43 1)) 37 11 1)) (P := (True ∧ (1 = 0 ∨ 1 = 1))) 3 rfl ⟨trivial, (Or.inr rfl)⟩ ?_
              exact WX.vret rfl rfl (h10 c1 c2 c3 c9 c10 c11)
        · refine WX.run (pc' := 318) (L' := [some (.ref 37), some (.int x1), some (.int x2), some (.int r), some (.int (shl 1 ((4 * r) + x2)))]) (st' := [.int (M.1 37 11), .ref 37]) (M' := (wr (wr (wr (wr M 37 10 1) 41 1 ((M.1 41 1) ||| 0)) 42 1 ((M.1 42 1) ||| (shl 1 ((4 * r) + x2)))) 43 1 ((4 * r) + x2))) (P := (True ∧ vp_in 1 2)) 10 rfl ⟨trivial, (vp_lit rfl)⟩ ?_
          refine WX.if_ne (off := 9) (tgt := 327) rfl rfl (fun c12 => ?_) (fun c12 => ?_)
          · refine WX.run (pc' := 335) (L' := [some (.ref 37), some (.int x1), some (.int x2), some (.int r), some (.int (shl 1 ((4 * r) + x2)))]) (st' := []) (M' := (wr (wr (wr (wr (wr M 37 10 1) 41 1 ((M.1 41 1) ||| 0)) 42 1 ((M.1 42 1) ||| (shl 1 ((4 * r) + x2)))) 43 1 ((4 * r) + x2)) 37 11 1)) (P := (True ∧ (1 = 0 ∨ 1 = 1))) 3 rfl ⟨trivial, (Or.inr rfl)⟩ ?_
            exact WX.vret rfl rfl (h11 c1 c2 c3 c9 c12)
          · refine WX.run (pc' := 324) (L' := [some (.ref 37), some (.int x1), some (.int x2), some (.int r), some (.int (shl 1 ((4 * r) + x2)))]) (st' := [.int 111, .int x1, .ref 37]) (M' := (wr (wr (wr (wr M 37 10 1) 41 1 ((M.1 41 1) ||| 0)) 42 1 ((M.1 42 1) ||| (shl 1 ((4 * r) + x2)))) 43 1 ((4 * r) + x2))) (P := True) 2 rfl trivial ?_
            refine WX.icmp_ne (off := 7) (tgt := 331) rfl rfl (fun c13 => ?_) (fun c13 => ?_)
            · refine WX.run (pc' := 335) (L' := [some (.ref 37), some (.int x1), some (.int x2), some (.int r), some (.int (shl 1 ((4 * r) + x2)))]) (st' := []) (M' := (wr (wr (wr (wr (wr M 37 10 1) 41 1 ((M.1 41 1) ||| 0)) 42 1 ((M.1 42 1) ||| (shl 1 ((4 * r) + x2)))) 43 1 ((4 * r) + x2)) 37 11 0)) (P := (True ∧ (0 = 0 ∨ 0 = 1))) 2 rfl ⟨trivial, (Or.inl rfl)⟩ ?_
              exact WX.vret rfl rfl (h12 c1 c2 c3 c9 c12 c13)
            · refine WX.run (pc' := 335) (L' := [some (.ref 37), some (.int x1), some (.int x2), some (.int r), some (.int (shl 1 ((4 * r) + x2)))]) (st' := []) (M' := (wr (wr (wr (wr (wr M 37 10 1) 41 1 ((M.1 41 1) ||| 0)) 42 1 ((M.1 42 1) ||| (shl 1 ((4 * r) + x2)))) 43 1 ((4 * r) + x2)) 37 11 1)) (P := (True ∧ (1 = 0 ∨ 1 = 1))) 3 rfl ⟨trivial, (Or.inr rfl)⟩ ?_
              exact WX.vret rfl rfl (h13 c1 c2 c3 c9 c12 c13)
    · refine WX.run (pc' := 276) (L' := [some (.ref 37), some (.int x1), some (.int x2), some (.int r), some (.int (shl 1 ((4 * r) + x2)))]) (st' := [.int 100, .int x1, .int (M.1 42 1), .int 1, .ref 42]) (M' := (wr (wr M 37 10 1) 41 1 ((M.1 41 1) ||| (shl 1 ((4 * r) + x2))))) (P := ((True ∧ vp_in 1 2) ∧ vp_in 1 2)) 11 rfl ⟨⟨trivial, (vp_lit rfl)⟩, (vp_lit rfl)⟩ ?_
      refine WX.icmp_ne (off := 8) (tgt := 284) rfl rfl (fun c14 => ?_) (fun c14 => ?_)
      · refine WX.run (pc' := 295) (L' := [some (.ref 37), some (.int x1), some (.int x2), some (.int r), some (.int (shl 1 ((4 * r) + x2)))]) (st' := [.int 111, .int x1, .int 1, .ref 43]) (M' := (wr (wr (wr M 37 10 1) 41 1 ((M.1 41 1) ||| (shl 1 ((4 * r) + x2)))) 42 1 ((M.1 42 1) ||| 0))) (P := (True ∧ vp_in 1 2)) 8 rfl ⟨trivial, (vp_lit rfl)⟩ ?_
        refine WX.icmp_ne (off := 11) (tgt := 306) rfl rfl (fun c15 => ?_) (fun c15 => ?_)
        · refine WX.run (pc' := 318) (L' := [some (.ref 37), some (.int x1), some (.int x2), some (.int r), some (.int (shl 1 ((4 * r) + x2)))]) (st' := [.int (M.1 37 11), .ref 37]) (M' := (wr (wr (wr (wr M 37 10 1) 41 1 ((M.1 41 1) ||| (shl 1 ((4 * r) + x2)))) 42 1 ((M.1 42 1) ||| 0)) 43 1 (M.1 43 1))) (P := ((True ∧ vp_in 1 2) ∧ vp_in 1 2)) 8 rfl ⟨⟨trivial, (vp_lit rfl)⟩, (vp_lit rfl)⟩ ?_
          refine WX.if_ne (off := 9) (tgt := 327) rfl rfl (fun c16 => ?_) (fun c16 => ?_)
          · refine WX.run (pc' := 335) (L' := [some (.ref 37), some (.int x1), some (.int x2), some (.int r), some (.int (shl 1 ((4 * r) + x2)))]) (st' := []) (M' := (wr (wr (wr (wr (wr M 37 10 1) 41 1 ((M.1 41 1) ||| (shl 1 ((4 * r) + x2)))) 42 1 ((M.1 42 1) ||| 0)) 43 1 (M.1 43 1)) 37 11 1)) (P := (True ∧ (1 = 0 ∨ 1 = 1))) 3 rfl ⟨trivial, (Or.inr rfl)⟩ ?_
            exact WX.vret rfl rfl (h14 c1 c2 c14 c15 c16)
          · refine WX.run (pc' := 324) (L' := [some (.ref 37), some (.int x1), some (.int x2), some (.int r), some (.int (shl 1 ((4 * r) + x2)))]) (st' := [.int 111, .int x1, .ref 37]) (M' := (wr (wr (wr (wr M 37 10 1) 41 1 ((M.1 41 1) ||| (shl 1 ((4 * r) + x2)))) 42 1 ((M.1 42 1) ||| 0)) 43 1 (M.1 43 1))) (P := True) 2 rfl trivial ?_
            refine WX.icmp_ne (off := 7) (tgt := 331) rfl rfl (fun c17 => ?_) (fun c17 => ?_)
            · refine WX.run (pc' := 335) (L' := [some (.ref 37), some (.int x1), some (.int x2), some (.int r), some (.int (shl 1 ((4 * r) + x2)))]) (st' := []) (M' := (wr (wr (wr (wr (wr M 37 10 1) 41 1 ((M.1 41 1) ||| (shl 1 ((4 * r) + x2)))) 42 1 ((M.1 42 1) ||| 0)) 43 1 (M.1 43 1)) 37 11 0)) (P := (True ∧ (0 = 0 ∨ 0 = 1))) 2 rfl ⟨trivial, (Or.inl rfl)⟩ ?_
              exact WX.vret rfl rfl (h15 c1 c2 c14 c15 c16 c17)
            · refine WX.run (pc' := 335) (L' := [some (.ref 37), some (.int x1), some (.int x2), some (.int r), some (.int (shl 1 ((4 * r) + x2)))]) (st' := []) (M' := (wr (wr (wr (wr (wr M 37 10 1) 41 1 ((M.1 41 1) ||| (shl 1 ((4 * r) + x2)))) 42 1 ((M.1 42 1) ||| 0)) 43 1 (M.1 43 1)) 37 11 1)) (P := (True ∧ (1 = 0 ∨ 1 = 1))) 3 rfl ⟨trivial, (Or.inr rfl)⟩ ?_
              exact WX.vret rfl rfl (h16 c1 c2 c14 c15 c16 c17)
        · refine WX.run (pc' := 318) (L' := [some (.ref 37), some (.int x1), some (.int x2), some (.int r), some (.int (shl 1 ((4 * r) + x2)))]) (st' := [.int (M.1 37 11), .ref 37]) (M' := (wr (wr (wr (wr M 37 10 1) 41 1 ((M.1 41 1) ||| (shl 1 ((4 * r) + x2)))) 42 1 ((M.1 42 1) ||| 0)) 43 1 ((4 * r) + x2))) (P := (True ∧ vp_in 1 2)) 10 rfl ⟨trivial, (vp_lit rfl)⟩ ?_
          refine WX.if_ne (off := 9) (tgt := 327) rfl rfl (fun c18 => ?_) (fun c18 => ?_)
          · refine WX.run (pc' := 335) (L' := [some (.ref 37), some (.int x1), some (.int x2), some (.int r), some (.int (shl 1 ((4 * r) + x2)))]) (st' := []) (M' := (wr (wr (wr (wr (wr M 37 10 1) 41 1 ((M.1 41 1) ||| (shl 1 ((4 * r) + x2)))) 42 1 ((M.1 42 1) ||| 0)) 43 1 ((4 * r) + x2)) 37 11 1)) (P := (True ∧ (1 = 0 ∨ 1 = 1))) 3 rfl ⟨trivial, (Or.inr rfl)⟩ ?_
            exact WX.vret rfl rfl (h17 c1 c2 c14 c15 c18)
          · refine WX.run (pc' := 324) (L' := [some (.ref 37), some (.int x1), some (.int x2), some (.int r), some (.int (shl 1 ((4 * r) + x2)))]) (st' := [.int 111, .int x1, .ref 37]) (M' := (wr (wr (wr (wr M 37 10 1) 41 1 ((M.1 41 1) ||| (shl 1 ((4 * r) + x2)))) 42 1 ((M.1 42 1) ||| 0)) 43 1 ((4 * r) + x2))) (P := True) 2 rfl trivial ?_
            refine WX.icmp_ne (off := 7) (tgt := 331) rfl rfl (fun c19 => ?_) (fun c19 => ?_)
            · refine WX.run (pc' := 335) (L' := [some (.ref 37), some (.int x1), some (.int x2), some (.int r), some (.int (shl 1 ((4 * r) + x2)))]) (st' := []) (M' := (wr (wr (wr (wr (wr M 37 10 1) 41 1 ((M.1 41 1) ||| (shl 1 ((4 * r) + x2)))) 42 1 ((M.1 42 1) ||| 0)) 43 1 ((4 * r) + x2)) 37 11 0)) (P := (True ∧ (0 = 0 ∨ 0 = 1))) 2 rfl ⟨trivial, (Or.inl rfl)⟩ ?_
              exact WX.vret rfl rfl (h18 c1 c2 c14 c15 c18 c19)
            · refine WX.run (pc' := 335) (L' := [some (.ref 37), some (.int x1), some (.int x2), some (.int r), some (.int (shl 1 ((4 * r) + x2)))]) (st' := []) (M' := (wr (wr (wr (wr (wr M 37 10 1) 41 1 ((M.1 41 1) ||| (shl 1 ((4 * r) + x2)))) 42 1 ((M.1 42 1) ||| 0)) 43 1 ((4 * r) + x2)) 37 11 1)) (P := (True ∧ (1 = 0 ∨ 1 = 1))) 3 rfl ⟨trivial, (Or.inr rfl)⟩ ?_
              exact WX.vret rfl rfl (h19 c1 c2 c14 c15 c18 c19)
      · refine WX.run (pc' := 295) (L' := [some (.ref 37), some (.int x1), some (.int x2), some (.int r), some (.int (shl 1 ((4 * r) + x2)))]) (st' := [.int 111, .int x1, .int 1, .ref 43]) (M' := (wr (wr (wr M 37 10 1) 41 1 ((M.1 41 1) ||| (shl 1 ((4 * r) + x2)))) 42 1 ((M.1 42 1) ||| (shl 1 ((4 * r) + x2))))) (P := (True ∧ vp_in 1 2)) 9 rfl ⟨trivial, (vp_lit rfl)⟩ ?_
        refine WX.icmp_ne (off := 11) (tgt := 306) rfl rfl (fun c20 => ?_) (fun c20 => ?_)
        · refine WX.run (pc' := 318) (L' := [some (.ref 37), some (.int x1), some (.int x2), some (.int r), some (.int (shl 1 ((4 * r) + x2)))]) (st' := [.int (M.1 37 11), .ref 37]) (M' := (wr (wr (wr (wr M 37 10 1) 41 1 ((M.1 41 1) ||| (shl 1 ((4 * r) + x2)))) 42 1 ((M.1 42 1) ||| (shl 1 ((4 * r) + x2)))) 43 1 (M.1 43 1))) (P := ((True ∧ vp_in 1 2) ∧ vp_in 1 2)) 8 rfl ⟨⟨trivial, (vp_lit rfl)⟩, (vp_lit rfl)⟩ ?_
          refine WX.if_ne (off := 9) (tgt := 327) rfl rfl (fun c21 => ?_) (fun c21 => ?_)
          · refine WX.run (pc' := 335) (L' := [some (.ref 37), some (.int x1), some (.int x2), some (.int r), some (.int (shl 1 ((4 * r) + x2)))]) (st' := []) (M' := (wr (wr (wr (wr (wr M 37 10 1) 41 1 ((M.1 41 1) ||| (shl 1 ((4 * r) + x2)))) 42 1 ((M.1 42 1) ||| (shl 1 ((4 * r) + x2)))) 43 1 (M.1 43 1)) 37 11 1)) (P := (True ∧ (1 = 0 ∨ 1 = 1))) 3 rfl ⟨trivial, (Or.inr rfl)⟩ ?_
            exact WX.vret rfl rfl (h20 c1 c2 c14 c20 c21)
          · refine WX.run (pc' := 324) (L' := [some (.ref 37), some (.int x1), some (.int x2), some (.int r), some (.int (shl 1 ((4 * r) + x2)))]) (st' := [.int 111, .int x1, .ref 37]) (M' := (wr (wr (wr (wr M 37 10 1) 41 1 ((M.1 41 1) ||| (shl 1 ((4 * r) + x2)))) 42 1 ((M.1 42 1) ||| (shl 1 ((4 * r) + x2)))) 43 1 (M.1 43 1))) (P := True) 2 rfl trivial ?_
            refine WX.icmp_ne (off := 7) (tgt := 331) rfl rfl (fun c22 => ?_) (fun c22 => ?_)
            · refine WX.run (pc' := 335) (L' := [some (.ref 37), some (.int x1), some (.int x2), some (.int r), some (.int (shl 1 ((4 * r) + x2)))]) (st' := []) (M' := (wr (wr (wr (wr (wr M 37 10 1) 41 1 ((M.1 41 1) ||| (shl 1 ((4 * r) + x2)))) 42 1 ((M.1 42 1) ||| (shl 1 ((4 * r) + x2)))) 43 1 (M.1 43 1)) 37 11 0)) (P := (True ∧ (0 = 0 ∨ 0 = 1))) 2 rfl ⟨trivial, (Or.inl rfl)⟩ ?_
              exact WX.vret rfl rfl (h21 c1 c2 c14 c20 c21 c22)
            · refine WX.run (pc' := 335) (L' := [some (.ref 37), some (.int x1), some (.int x2), some (.int r), some (.int (shl 1 ((4 * r) + x2)))]) (st' := []) (M' := (wr (wr (wr (wr (wr M 37 10 1) 41 1 ((M.1 41 1) ||| (shl 1 ((4 * r) + x2)))) 42 1 ((M.1 42 1) ||| (shl 1 ((4 * r) + x2)))) 43 1 (M.1 43 1)) 37 11 1)) (P := (True ∧ (1 = 0 ∨ 1 = 1))) 3 rfl ⟨trivial, (Or.inr rfl)⟩ ?_
              exact WX.vret rfl rfl (h22 c1 c2 c14 c20 c21 c22)
        · refine WX.run (pc' := 318) (L' := [some (.ref 37), some (.int x1), some (.int x2), some (.int r), some (.int (shl 1 ((4 * r) + x2)))]) (st' := [.int (M.1 37 11), .ref 37]) (M' := (wr (wr (wr (wr M 37 10 1) 41 1 ((M.1 41 1) ||| (shl 1 ((4 * r) + x2)))) 42 1 ((M.1 42 1) ||| (shl 1 ((4 * r) + x2)))) 43 1 ((4 * r) + x2))) (P := (True ∧ vp_in 1 2)) 10 rfl ⟨trivial, (vp_lit rfl)⟩ ?_
          refine WX.if_ne (off := 9) (tgt := 327) rfl rfl (fun c23 => ?_) (fun c23 => ?_)
          · refine WX.run (pc' := 335) (L' := [some (.ref 37), some (.int x1), some (.int x2), some (.int r), some (.int (shl 1 ((4 * r) + x2)))]) (st' := []) (M' := (wr (wr (wr (wr (wr M 37 10 1) 41 1 ((M.1 41 1) ||| (shl 1 ((4 * r) + x2)))) 42 1 ((M.1 42 1) ||| (shl 1 ((4 * r) + x2)))) 43 1 ((4 * r) + x2)) 37 11 1)) (P := (True ∧ (1 = 0 ∨ 1 = 1))) 3 rfl ⟨trivial, (Or.inr rfl)⟩ ?_
            exact WX.vret rfl rfl (h23 c1 c2 c14 c20 c23)
          · refine WX.run (pc' := 324) (L' := [some (.ref 37), some (.int x1), some (.int x2), some (.int r), some (.int (shl 1 ((4 * r) + x2)))]) (st' := [.int 111, .int x1, .ref 37]) (M' := (wr (wr (wr (wr M 37 10 1) 41 1 ((M.1 41 1) ||| (shl 1 ((4 * r) + x2)))) 42 1 ((M.1 42 1) ||| (shl 1 ((4 * r) + x2)))) 43 1 ((4 * r) + x2))) (P := True) 2 rfl trivial ?_
            refine WX.icmp_ne (off := 7) (tgt := 331) rfl rfl (fun c24 => ?_) (fun c24 => ?_)
            · refine WX.run (pc' := 335) (L' := [some (.ref 37), some (.int x1), some (.int x2), some (.int r), some (.int (shl 1 ((4 * r) + x2)))]) (st' := []) (M' := (wr (wr (wr (wr (wr M 37 10 1) 41 1 ((M.1 41 1) ||| (shl 1 ((4 * r) + x2)))) 42 1 ((M.1 42 1) ||| (shl 1 ((4 * r) + x2)))) 43 1 ((4 * r) + x2)) 37 11 0)) (P := (True ∧ (0 = 0 ∨ 0 = 1))) 2 rfl ⟨trivial, (Or.inl rfl)⟩ ?_
              exact WX.vret rfl rfl (h24 c1 c2 c14 c20 c23 c24)
            · refine WX.run (pc' := 335) (L' := [some (.ref 37), some (.int x1), some (.int x2), some (.int r), some (.int (shl 1 ((4 * r) + x2)))]) (st' := []) (M' := (wr (wr (wr (wr (wr M 37 10 1) 41 1 ((M.1 41 1) ||| (shl 1 ((4 * r) + x2)))) 42 1 ((M.1 42 1) ||| (shl 1 ((4 * r) + x2)))) 43 1 ((4 * r) + x2)) 37 11 1)) (P := (True ∧ (1 = 0 ∨ 1 = 1))) 3 rfl ⟨trivial, (Or.inr rfl)⟩ ?_
              exact WX.vret rfl rfl (h25 c1 c2 c14 c20 c23 c24)
theorem sg_M_plain_37_0 {Q : Option Value → Mem → Prop} (M : Mem)
    (h1 : WX mi_M_plain 1 Q 52 [some (.ref 37), some (.int 0)] [] (wr (wr (wr (wr (wr (wr (wr (wr M 39 1 0) 40 1 0) 41 1 0) 42 1 0) 43 1 0) 37 10 0) 37 11 0) 37 12 0)) :
    WX mi_M_plain 1 Q 0 [some (.ref 37), none] [] M := by
  refine WX.run (pc' := 52) (L' := [some (.ref 37), some (.int 0)]) (st' := []) (M' := (wr (wr (wr (wr (wr (wr (wr (wr M 39 1 0) 40 1 0) 41 1 0) 42 1 0) 43 1 0) 37 10 0) 37 11 0) 37 12 0)) (P := ((((((((True ∧ vp_in 1 2) ∧ vp_in 1 2) ∧ vp_in 1 2) ∧ vp_in 1 2) ∧ vp_in 1 2) ∧ (0 = 0 ∨ 0 = 1)) ∧ (0 = 0 ∨ 0 = 1)) ∧ (0 = 0 ∨ 0 = 1))) 36 rfl ⟨⟨⟨⟨⟨⟨⟨⟨trivial, (vp_lit rfl)⟩, (vp_lit rfl)⟩, (vp_lit rfl)⟩, (vp_lit rfl)⟩, (vp_lit rfl)⟩, (Or.inl rfl)⟩, (Or.inl rfl)⟩, (Or.inl rfl)⟩ ?_
  exact h1
theorem sg_M_plain_37_52 {Q : Option Value → Mem → Prop} (M : Mem) (x1 : Int32)
    (h1 : 4 ≤ x1 → Q none M)
    (b2 : ¬ 4 ≤ x1 → vp_in x1 4)
    (h3 : ¬ 4 ≤ x1 → WX mi_M_plain 1 Q 52 [some (.ref 37), some (.int (x1 + 1))] [] (wr M 45 x1.toNatClampNeg 4)) :
    WX mi_M_plain 1 Q 52 [some (.ref 37), some (.int x1)] [] M := by
  refine WX.run (pc' := 54) (L' := [some (.ref 37), some (.int x1)]) (st' := [.int 4, .int x1]) (M' := M) (P := True) 2 rfl trivial ?_
  refine WX.icmp_ge (off := 16) (tgt := 70) rfl rfl (fun c1 => ?_) (fun c1 => ?_)
  · exact WX.vret rfl rfl (h1 c1)
  · refine WX.run (pc' := 52) (L' := [some (.ref 37), some (.int (x1 + 1))]) (st' := []) (M' := (wr M 45 x1.toNatClampNeg 4)) (P := (True ∧ vp_in x1 4)) 7 rfl ⟨trivial, (b2 c1)⟩ ?_
    exact (h3 c1)
theorem sg_M_takeDraft_37_0 {Q : Option Value → Mem → Prop} (M : Mem)
    (h1 : WX mi_M_takeDraft 1 Q 62 [some (.ref 37), some (.int 0)] [] (wr (wr (wr (wr (wr M 39 0 (M.1 39 1)) 40 0 (M.1 40 1)) 41 0 (M.1 41 1)) 42 0 (M.1 42 1)) 43 0 (M.1 43 1))) :
    WX mi_M_takeDraft 1 Q 0 [some (.ref 37), none] [] M := by
  refine WX.run (pc' := 62) (L' := [some (.ref 37), some (.int 0)]) (st' := []) (M' := (wr (wr (wr (wr (wr M 39 0 (M.1 39 1)) 40 0 (M.1 40 1)) 41 0 (M.1 41 1)) 42 0 (M.1 42 1)) 43 0 (M.1 43 1))) (P := ((((((((((True ∧ vp_in 1 2) ∧ vp_in 0 2) ∧ vp_in 1 2) ∧ vp_in 0 2) ∧ vp_in 1 2) ∧ vp_in 0 2) ∧ vp_in 1 2) ∧ vp_in 0 2) ∧ vp_in 1 2) ∧ vp_in 0 2)) 42 rfl ⟨⟨⟨⟨⟨⟨⟨⟨⟨⟨trivial, (vp_lit rfl)⟩, (vp_lit rfl)⟩, (vp_lit rfl)⟩, (vp_lit rfl)⟩, (vp_lit rfl)⟩, (vp_lit rfl)⟩, (vp_lit rfl)⟩, (vp_lit rfl)⟩, (vp_lit rfl)⟩, (vp_lit rfl)⟩ ?_
  exact h1
theorem sg_M_takeDraft_37_62 {Q : Option Value → Mem → Prop} (M : Mem) (x1 : Int32)
    (h1 : 16 ≤ x1 → WX mi_M_takeDraft 1 Q 99 [some (.ref 37), some (.int 0)] [] M)
    (b2 : ¬ 16 ≤ x1 → vp_in x1 16)
    (b3 : ¬ 16 ≤ x1 → vp_in x1 1257)
    (b4 : ¬ 16 ≤ x1 → vp_in (16 + x1) 1257)
    (h5 : ¬ 16 ≤ x1 → WX mi_M_takeDraft 1 Q 62 [some (.ref 37), some (.int (x1 + 1))] [] (wr (wr M 46 x1.toNatClampNeg (M.1 44 x1.toNatClampNeg)) 46 (16 + x1).toNatClampNeg (-9))) :
    WX mi_M_takeDraft 1 Q 62 [some (.ref 37), some (.int x1)] [] M := by
  refine WX.run (pc' := 65) (L' := [some (.ref 37), some (.int x1)]) (st' := [.int 16, .int x1]) (M' := M) (P := True) 2 rfl trivial ?_
  refine WX.icmp_ge (off := 32) (tgt := 97) rfl rfl (fun c1 => ?_) (fun c1 => ?_)
  · refine WX.run (pc' := 99) (L' := [some (.ref 37), some (.int 0)]) (st' := []) (M' := M) (P := True) 2 rfl trivial ?_
    exact (h1 c1)
  · refine WX.run (pc' := 62) (L' := [some (.ref 37), some (.int (x1 + 1))]) (st' := []) (M' := (wr (wr M 46 x1.toNatClampNeg (M.1 44 x1.toNatClampNeg)) 46 (16 + x1).toNatClampNeg (-9))) (P := (((True ∧ vp_in x1 16) ∧ vp_in x1 1257) ∧ vp_in (16 + x1) 1257)) 17 rfl ⟨⟨⟨trivial, (b2 c1)⟩, (b3 c1)⟩, (b4 c1)⟩ ?_
    exact (h5 c1)
theorem sg_M_takeDraft_37_99 {Q : Option Value → Mem → Prop} (M : Mem) (x1 : Int32)
    (h1 : 4 ≤ x1 → Q none (wr (wr (wr (wr (wr (wr M 46 36 0) 46 37 0) 46 38 0) 37 29 0) 47 0 (vp_nar .boolean 0)) 47 1 (vp_nar .boolean 0)))
    (b2 : ¬ 4 ≤ x1 → vp_in x1 4)
    (b3 : ¬ 4 ≤ x1 → vp_in (32 + x1) 1257)
    (h4 : ¬ 4 ≤ x1 → WX mi_M_takeDraft 1 Q 99 [some (.ref 37), some (.int (x1 + 1))] [] (wr M 46 (32 + x1).toNatClampNeg (M.1 45 x1.toNatClampNeg))) :
    WX mi_M_takeDraft 1 Q 99 [some (.ref 37), some (.int x1)] [] M := by
  refine WX.run (pc' := 101) (L' := [some (.ref 37), some (.int x1)]) (st' := [.int 4, .int x1]) (M' := M) (P := True) 2 rfl trivial ?_
  refine WX.icmp_ge (off := 24) (tgt := 125) rfl rfl (fun c1 => ?_) (fun c1 => ?_)
  · refine WX.run (pc' := 168) (L' := [some (.ref 37), some (.int x1)]) (st' := []) (M' := (wr (wr (wr (wr (wr (wr M 46 36 0) 46 37 0) 46 38 0) 37 29 0) 47 0 (vp_nar .boolean 0)) 47 1 (vp_nar .boolean 0))) (P := (((((True ∧ vp_in 36 1257) ∧ vp_in 37 1257) ∧ vp_in 38 1257) ∧ vp_in 0 2) ∧ vp_in 1 2)) 28 rfl ⟨⟨⟨⟨⟨trivial, (vp_lit rfl)⟩, (vp_lit rfl)⟩, (vp_lit rfl)⟩, (vp_lit rfl)⟩, (vp_lit rfl)⟩ ?_
    exact WX.vret rfl rfl (h1 c1)
  · refine WX.run (pc' := 99) (L' := [some (.ref 37), some (.int (x1 + 1))]) (st' := []) (M' := (wr M 46 (32 + x1).toNatClampNeg (M.1 45 x1.toNatClampNeg))) (P := ((True ∧ vp_in x1 4) ∧ vp_in (32 + x1) 1257)) 12 rfl ⟨⟨trivial, (b2 c1)⟩, (b3 c1)⟩ ?_
    exact (h4 c1)
theorem sg_M_yard_37_0 {Q : Option Value → Mem → Prop} (M : Mem)
    (h1 : WX mi_M_plain 1 (fun rv M' => WX mi_M_yard 6 Q 15 [some (.ref 37), none, none] (rv.toList ++ []) M') 0 [some (.ref 37), none] [] (wr (wr M 37 13 0) 37 17 (-9))) :
    WX mi_M_yard 6 Q 0 [some (.ref 37), none, none] [] M := by
  refine WX.run (pc' := 12) (L' := [some (.ref 37), none, none]) (st' := [.ref 37]) (M' := (wr (wr M 37 13 0) 37 17 (-9))) (P := True) 7 rfl trivial ?_
  refine WX.callV (ca := mi_M_plain) (n := 0) (d' := 1) (st := []) (As := []) (q := 37) rfl lk_7_66 ck_M_plain cv_M_plain rfl (by decide) rfl (Nat.le_of_ble_eq_true rfl) ⟨by decide, rfl, by decide⟩ (fun w hw => absurd hw List.not_mem_nil) (Nat.le_of_ble_eq_true rfl) ?_
  exact h1
theorem sg_M_yard_37_15 {Q : Option Value → Mem → Prop} (M : Mem)
    (h1 : WX mi_M_step 2 (fun rv M' => WX mi_M_yard 6 Q 21 [some (.ref 37), some (.int 0), none] (rv.toList ++ []) M') 0 [some (.ref 37), none] [] M) :
    WX mi_M_yard 6 Q 15 [some (.ref 37), none, none] [] M := by
  refine WX.run (pc' := 18) (L' := [some (.ref 37), some (.int 0), none]) (st' := [.ref 37]) (M' := M) (P := True) 3 rfl trivial ?_
  refine WX.callV (ca := mi_M_step) (n := 0) (d' := 2) (st := []) (As := []) (q := 37) rfl lk_7_99 ck_M_step cv_M_step rfl (by decide) rfl (Nat.le_of_ble_eq_true rfl) ⟨by decide, rfl, by decide⟩ (fun w hw => absurd hw List.not_mem_nil) (Nat.le_of_ble_eq_true rfl) ?_
  exact h1
theorem sg_M_yard_37_21 {Q : Option Value → Mem → Prop} (M : Mem) (x1 : Int32)
    (h1 : ¬ (M.1 37 17) = (-9) → (M.1 37 17) = (-9) → WX mi_M_takeDraft 1 (fun rv M' => WX mi_M_yard 6 Q 113 [some (.ref 37), some (.int x1), none] (rv.toList ++ []) M') 0 [some (.ref 37), none] [] M)
    (h2 : ¬ (M.1 37 17) = (-9) → ¬ (M.1 37 17) = (-9) → Q (some (.int ((-10) - (M.1 37 17)))) M)
    (h3 : (M.1 37 17) = (-9) → (M.1 37 15) = 3 → (M.1 37 17) = (-9) → WX mi_M_takeDraft 1 (fun rv M' => WX mi_M_yard 6 Q 113 [some (.ref 37), some (.int x1), none] (rv.toList ++ []) M') 0 [some (.ref 37), none] [] M)
    (h4 : (M.1 37 17) = (-9) → (M.1 37 15) = 3 → ¬ (M.1 37 17) = (-9) → Q (some (.int ((-10) - (M.1 37 17)))) M)
    (h5 : (M.1 37 17) = (-9) → ¬ (M.1 37 15) = 3 → WX mi_M_due 3 (fun rv M' => WX mi_M_yard 6 Q 53 [some (.ref 37), some (.int x1), some (.int (M.1 37 15))] (rv.toList ++ []) M') 0 [some (.ref 37), some (.int (z_M_mayBe_37 M (M.1 37 15) x1)), none] [] M) :
    WX mi_M_yard 6 Q 21 [some (.ref 37), some (.int x1), none] [] M := by
  refine WX.run (pc' := 27) (L' := [some (.ref 37), some (.int x1), none]) (st' := [.int (-9), .int (M.1 37 17)]) (M' := M) (P := True) 3 rfl trivial ?_
  refine WX.icmp_ne (off := 65) (tgt := 92) rfl rfl (fun c1 => ?_) (fun c1 => ?_)
  · refine WX.run (pc' := 98) (L' := [some (.ref 37), some (.int x1), none]) (st' := [.int (-9), .int (M.1 37 17)]) (M' := M) (P := True) 3 rfl trivial ?_
    refine WX.icmp_eq (off := 11) (tgt := 109) rfl rfl (fun c2 => ?_) (fun c2 => ?_)
    · refine WX.run (pc' := 110) (L' := [some (.ref 37), some (.int x1), none]) (st' := [.ref 37]) (M' := M) (P := True) 1 rfl trivial ?_
      refine WX.callV (ca := mi_M_takeDraft) (n := 0) (d' := 1) (st := []) (As := []) (q := 37) rfl lk_7_69 ck_M_takeDraft cv_M_takeDraft rfl (by decide) rfl (Nat.le_of_ble_eq_true rfl) ⟨by decide, rfl, by decide⟩ (fun w hw => absurd hw List.not_mem_nil) (Nat.le_of_ble_eq_true rfl) ?_
      exact (h1 c1 c2)
    · refine WX.run (pc' := 108) (L' := [some (.ref 37), some (.int x1), none]) (st' := [.int ((-10) - (M.1 37 17))]) (M' := M) (P := True) 4 rfl trivial ?_
      exact WX.iret rfl rfl (h2 c1 c2)
  · refine WX.run (pc' := 35) (L' := [some (.ref 37), some (.int x1), none]) (st' := [.int 3, .int (M.1 37 15)]) (M' := M) (P := True) 3 rfl trivial ?_
    refine WX.icmp_eq (off := 57) (tgt := 92) rfl rfl (fun c3 => ?_) (fun c3 => ?_)
    · refine WX.run (pc' := 98) (L' := [some (.ref 37), some (.int x1), none]) (st' := [.int (-9), .int (M.1 37 17)]) (M' := M) (P := True) 3 rfl trivial ?_
      refine WX.icmp_eq (off := 11) (tgt := 109) rfl rfl (fun c4 => ?_) (fun c4 => ?_)
      · refine WX.run (pc' := 110) (L' := [some (.ref 37), some (.int x1), none]) (st' := [.ref 37]) (M' := M) (P := True) 1 rfl trivial ?_
        refine WX.callV (ca := mi_M_takeDraft) (n := 0) (d' := 1) (st := []) (As := []) (q := 37) rfl lk_7_69 ck_M_takeDraft cv_M_takeDraft rfl (by decide) rfl (Nat.le_of_ble_eq_true rfl) ⟨by decide, rfl, by decide⟩ (fun w hw => absurd hw List.not_mem_nil) (Nat.le_of_ble_eq_true rfl) ?_
        exact (h3 c1 c3 c4)
      · refine WX.run (pc' := 108) (L' := [some (.ref 37), some (.int x1), none]) (st' := [.int ((-10) - (M.1 37 17))]) (M' := M) (P := True) 4 rfl trivial ?_
        exact WX.iret rfl rfl (h4 c1 c3 c4)
    · refine WX.run (pc' := 47) (L' := [some (.ref 37), some (.int x1), some (.int (M.1 37 15))]) (st' := [.int x1, .int (M.1 37 15), .ref 37, .ref 37]) (M' := M) (P := True) 7 rfl trivial ?_
      refine WX.callV (ca := mi_M_mayBe) (n := 2) (d' := 1) (st := [.ref 37]) (As := [.int (M.1 37 15), .int x1]) (q := 37) rfl lk_7_123 ck_M_mayBe cv_M_mayBe rfl (by decide) rfl (Nat.le_of_ble_eq_true rfl) ⟨by decide, rfl, by decide⟩ (by intro w hw; simp only [List.mem_cons, List.not_mem_nil, or_false] at hw; rcases hw with rfl | rfl <;> rfl) (Nat.le_of_ble_eq_true rfl) ?_
      refine wx_M_mayBe_37 M (M.1 37 15) x1 ?_
      show WX mi_M_yard 6 Q 50 [some (.ref 37), some (.int x1), some (.int (M.1 37 15))] [.int (z_M_mayBe_37 M (M.1 37 15) x1), .ref 37] M
      refine WX.callV (ca := mi_M_due) (n := 1) (d' := 3) (st := []) (As := [.int (z_M_mayBe_37 M (M.1 37 15) x1)]) (q := 37) rfl lk_7_102 ck_M_due cv_M_due rfl (by decide) rfl (Nat.le_of_ble_eq_true rfl) ⟨by decide, rfl, by decide⟩ (by intro w hw; simp only [List.mem_cons, List.not_mem_nil, or_false] at hw; rcases hw with rfl <;> rfl) (Nat.le_of_ble_eq_true rfl) ?_
      exact (h5 c1 c3)
theorem sg_M_yard_37_113 {Q : Option Value → Mem → Prop} (M : Mem) (x1 : Int32)
    (h1 : Q (some (.int x1)) (wr M 37 2 0)) :
    WX mi_M_yard 6 Q 113 [some (.ref 37), some (.int x1), none] [] M := by
  refine WX.run (pc' := 119) (L' := [some (.ref 37), some (.int x1), none]) (st' := [.int x1]) (M' := (wr M 37 2 0)) (P := True) 4 rfl trivial ?_
  exact WX.iret rfl rfl h1
theorem sg_M_yard_37_53 {Q : Option Value → Mem → Prop} (M : Mem) (x1 x2 r : Int32)
    (h1 : ¬ (M.1 37 17) = (-9) → WX mi_M_yard 6 Q 21 [some (.ref 37), some (.int x1), none] [] M)
    (h2 : (M.1 37 17) = (-9) → WX mi_M_readRow 5 (fun rv M' => WX mi_M_yard 6 Q 68 [some (.ref 37), some (.int x1), some (.int x2)] (rv.toList ++ []) M') 0 [some (.ref 37), some (.int x2), none, none, none] [] M) :
    WX mi_M_yard 6 Q 53 [some (.ref 37), some (.int x1), some (.int x2)] [.int r] M := by
  refine WX.run (pc' := 60) (L' := [some (.ref 37), some (.int x1), some (.int x2)]) (st' := [.int (-9), .int (M.1 37 17)]) (M' := M) (P := True) 4 rfl trivial ?_
  refine WX.icmp_ne (off := 29) (tgt := 89) rfl rfl (fun c1 => ?_) (fun c1 => ?_)
  · refine WX.run (pc' := 21) (L' := [some (.ref 37), some (.int x1), some (.int x2)]) (st' := []) (M' := M) (P := True) 1 rfl trivial ?_
    refine WX.forget2 (L' := [some (.ref 37), some (.int x1), none]) ?_ ⟨Or.inr rfl, Or.inr rfl, Or.inl rfl, trivial⟩
    exact (h1 c1)
  · refine WX.run (pc' := 65) (L' := [some (.ref 37), some (.int x1), some (.int x2)]) (st' := [.int x2, .ref 37]) (M' := M) (P := True) 2 rfl trivial ?_
    refine WX.callV (ca := mi_M_readRow) (n := 1) (d' := 5) (st := []) (As := [.int x2]) (q := 37) rfl lk_7_127 ck_M_readRow cv_M_readRow rfl (by decide) rfl (Nat.le_of_ble_eq_true rfl) ⟨by decide, rfl, by decide⟩ (by intro w hw; simp only [List.mem_cons, List.not_mem_nil, or_false] at hw; rcases hw with rfl <;> rfl) (Nat.le_of_ble_eq_true rfl) ?_
    exact (h2 c1)
theorem sg_M_yard_37_68 {Q : Option Value → Mem → Prop} (M : Mem) (x1 x2 : Int32)
    (h1 : ¬ (M.1 37 15) = 2 → WX mi_M_due 3 (fun rv M' => WX mi_M_yard 6 Q 85 [some (.ref 37), some (.int x1), some (.int x2)] (rv.toList ++ []) M') 0 [some (.ref 37), some (.int 0), none] [] M)
    (h2 : (M.1 37 15) = 2 → WX mi_M_due 3 (fun rv M' => WX mi_M_yard 6 Q 85 [some (.ref 37), some (.int x1), some (.int x2)] (rv.toList ++ []) M') 0 [some (.ref 37), some (.int 1), none] [] M) :
    WX mi_M_yard 6 Q 68 [some (.ref 37), some (.int x1), some (.int x2)] [] M := by
  refine WX.run (pc' := 74) (L' := [some (.ref 37), some (.int x1), some (.int x2)]) (st' := [.int 2, .int (M.1 37 15), .ref 37]) (M' := M) (P := True) 4 rfl trivial ?_
  refine WX.icmp_ne (off := 7) (tgt := 81) rfl rfl (fun c1 => ?_) (fun c1 => ?_)
  · refine WX.run (pc' := 82) (L' := [some (.ref 37), some (.int x1), some (.int x2)]) (st' := [.int 0, .ref 37]) (M' := M) (P := True) 1 rfl trivial ?_
    refine WX.callV (ca := mi_M_due) (n := 1) (d' := 3) (st := []) (As := [.int 0]) (q := 37) rfl lk_7_102 ck_M_due cv_M_due rfl (by decide) rfl (Nat.le_of_ble_eq_true rfl) ⟨by decide, rfl, by decide⟩ (by intro w hw; simp only [List.mem_cons, List.not_mem_nil, or_false] at hw; rcases hw with rfl <;> rfl) (Nat.le_of_ble_eq_true rfl) ?_
    exact (h1 c1)
  · refine WX.run (pc' := 82) (L' := [some (.ref 37), some (.int x1), some (.int x2)]) (st' := [.int 1, .ref 37]) (M' := M) (P := True) 2 rfl trivial ?_
    refine WX.callV (ca := mi_M_due) (n := 1) (d' := 3) (st := []) (As := [.int 1]) (q := 37) rfl lk_7_102 ck_M_due cv_M_due rfl (by decide) rfl (Nat.le_of_ble_eq_true rfl) ⟨by decide, rfl, by decide⟩ (by intro w hw; simp only [List.mem_cons, List.not_mem_nil, or_false] at hw; rcases hw with rfl <;> rfl) (Nat.le_of_ble_eq_true rfl) ?_
    exact (h2 c1)
theorem sg_M_yard_37_85 {Q : Option Value → Mem → Prop} (M : Mem) (x1 x2 r : Int32)
    (h1 : WX mi_M_yard 6 Q 21 [some (.ref 37), some (.int (x1 + 1)), none] [] M) :
    WX mi_M_yard 6 Q 85 [some (.ref 37), some (.int x1), some (.int x2)] [.int r] M := by
  refine WX.run (pc' := 21) (L' := [some (.ref 37), some (.int (x1 + 1)), some (.int x2)]) (st' := []) (M' := M) (P := True) 3 rfl trivial ?_
  refine WX.forget2 (L' := [some (.ref 37), some (.int (x1 + 1)), none]) ?_ ⟨Or.inr rfl, Or.inr rfl, Or.inl rfl, trivial⟩
  exact h1
theorem sg_M_know_37_0 {Q : Option Value → Mem → Prop} (M : Mem)
    (h1 : ¬ (M.1 46 38) = 10 → WX mi_M_know 1 Q 58 [some (.ref 37), some (.int 0)] [] M)
    (h2 : (M.1 46 38) = 10 → WX mi_M_know 1 Q 14 [some (.ref 37), some (.int 0)] [] M) :
    WX mi_M_know 1 Q 0 [some (.ref 37), none] [] M := by
  refine WX.run (pc' := 9) (L' := [some (.ref 37), none]) (st' := [.int 10, .int (M.1 46 38)]) (M' := M) (P := (True ∧ vp_in 38 1257)) 5 rfl ⟨trivial, (vp_lit rfl)⟩ ?_
  refine WX.icmp_ne (off := 47) (tgt := 56) rfl rfl (fun c1 => ?_) (fun c1 => ?_)
  · refine WX.run (pc' := 58) (L' := [some (.ref 37), some (.int 0)]) (st' := []) (M' := M) (P := True) 2 rfl trivial ?_
    exact (h1 c1)
  · refine WX.run (pc' := 14) (L' := [some (.ref 37), some (.int 0)]) (st' := []) (M' := M) (P := True) 2 rfl trivial ?_
    exact (h2 c1)
theorem sg_M_know_37_58 {Q : Option Value → Mem → Prop} (M : Mem) (x1 : Int32)
    (h1 : 38 ≤ x1 → Q none (wr M 46 38 ((M.1 46 38) + 1)))
    (b2 : ¬ 38 ≤ x1 → vp_in x1 1257)
    (b3 : ¬ 38 ≤ x1 → vp_in ((39 + (38 * (M.1 46 38))) + x1) 1257)
    (h4 : ¬ 38 ≤ x1 → WX mi_M_know 1 Q 58 [some (.ref 37), some (.int (x1 + 1))] [] (wr M 46 ((39 + (38 * (M.1 46 38))) + x1).toNatClampNeg (M.1 46 x1.toNatClampNeg))) :
    WX mi_M_know 1 Q 58 [some (.ref 37), some (.int x1)] [] M := by
  refine WX.run (pc' := 61) (L' := [some (.ref 37), some (.int x1)]) (st' := [.int 38, .int x1]) (M' := M) (P := True) 2 rfl trivial ?_
  refine WX.icmp_ge (off := 35) (tgt := 96) rfl rfl (fun c1 => ?_) (fun c1 => ?_)
  · refine WX.run (pc' := 107) (L' := [some (.ref 37), some (.int x1)]) (st' := []) (M' := (wr M 46 38 ((M.1 46 38) + 1))) (P := ((True ∧ vp_in 38 1257) ∧ vp_in 38 1257)) 8 rfl ⟨⟨trivial, (vp_lit rfl)⟩, (vp_lit rfl)⟩ ?_
    exact WX.vret rfl rfl (h1 c1)
  · refine WX.run (pc' := 58) (L' := [some (.ref 37), some (.int (x1 + 1))]) (st' := []) (M' := (wr M 46 ((39 + (38 * (M.1 46 38))) + x1).toNatClampNeg (M.1 46 x1.toNatClampNeg))) (P := (((True ∧ vp_in 38 1257) ∧ vp_in x1 1257) ∧ vp_in ((39 + (38 * (M.1 46 38))) + x1) 1257)) 19 rfl ⟨⟨⟨trivial, (vp_lit rfl)⟩, (b2 c1)⟩, (b3 c1)⟩ ?_
    exact (h4 c1)
theorem sg_M_know_37_14 {Q : Option Value → Mem → Prop} (M : Mem) (x1 : Int32)
    (h1 : 342 ≤ x1 → WX mi_M_know 1 Q 58 [some (.ref 37), some (.int 0)] [] (wr M 46 38 ((M.1 46 38) - 1)))
    (b2 : ¬ 342 ≤ x1 → vp_in (77 + x1) 1257)
    (b3 : ¬ 342 ≤ x1 → vp_in (39 + x1) 1257)
    (h4 : ¬ 342 ≤ x1 → WX mi_M_know 1 Q 14 [some (.ref 37), some (.int (x1 + 1))] [] (wr M 46 (39 + x1).toNatClampNeg (M.1 46 (77 + x1).toNatClampNeg))) :
    WX mi_M_know 1 Q 14 [some (.ref 37), some (.int x1)] [] M := by
  refine WX.run (pc' := 18) (L' := [some (.ref 37), some (.int x1)]) (st' := [.int 342, .int x1]) (M' := M) (P := True) 2 rfl trivial ?_
  refine WX.icmp_ge (off := 27) (tgt := 45) rfl rfl (fun c1 => ?_) (fun c1 => ?_)
  · refine WX.run (pc' := 58) (L' := [some (.ref 37), some (.int 0)]) (st' := []) (M' := (wr M 46 38 ((M.1 46 38) - 1))) (P := ((True ∧ vp_in 38 1257) ∧ vp_in 38 1257)) 10 rfl ⟨⟨trivial, (vp_lit rfl)⟩, (vp_lit rfl)⟩ ?_
    exact (h1 c1)
  · refine WX.run (pc' := 14) (L' := [some (.ref 37), some (.int (x1 + 1))]) (st' := []) (M' := (wr M 46 (39 + x1).toNatClampNeg (M.1 46 (77 + x1).toNatClampNeg))) (P := ((True ∧ vp_in (77 + x1) 1257) ∧ vp_in (39 + x1) 1257)) 14 rfl ⟨⟨trivial, (b2 c1)⟩, (b3 c1)⟩ ?_
    exact (h4 c1)
theorem sg_M_lowest_37_0 {Q : Option Value → Mem → Prop} (M : Mem) (x1 : Int32)
    (h1 : WX mi_M_lowest 1 Q 2 [some (.ref 37), some (.int x1), some (.int 0)] [] M) :
    WX mi_M_lowest 1 Q 0 [some (.ref 37), some (.int x1), none] [] M := by
  refine WX.run (pc' := 2) (L' := [some (.ref 37), some (.int x1), some (.int 0)]) (st' := []) (M' := M) (P := True) 2 rfl trivial ?_
  exact h1
theorem sg_M_lowest_37_2 {Q : Option Value → Mem → Prop} (M : Mem) (x1 x2 : Int32)
    (h1 : ¬ ((shr x1 x2) &&& 1) = 0 → Q (some (.int x2)) M)
    (h2 : ((shr x1 x2) &&& 1) = 0 → WX mi_M_lowest 1 Q 2 [some (.ref 37), some (.int x1), some (.int (x2 + 1))] [] M) :
    WX mi_M_lowest 1 Q 2 [some (.ref 37), some (.int x1), some (.int x2)] [] M := by
  refine WX.run (pc' := 7) (L' := [some (.ref 37), some (.int x1), some (.int x2)]) (st' := [.int ((shr x1 x2) &&& 1)]) (M' := M) (P := True) 5 rfl trivial ?_
  refine WX.if_ne (off := 9) (tgt := 16) rfl rfl (fun c1 => ?_) (fun c1 => ?_)
  · refine WX.run (pc' := 17) (L' := [some (.ref 37), some (.int x1), some (.int x2)]) (st' := [.int x2]) (M' := M) (P := True) 1 rfl trivial ?_
    exact WX.iret rfl rfl (h1 c1)
  · refine WX.run (pc' := 2) (L' := [some (.ref 37), some (.int x1), some (.int (x2 + 1))]) (st' := []) (M' := M) (P := True) 2 rfl trivial ?_
    exact (h2 c1)
theorem sg_M_part_46_0 {Q : Option Value → Mem → Prop} (M : Mem) (x1 x2 x3 : Int32)
    (b1 : vp_in (x1 + x2) 1257)
    (h2 : (M.1 46 (x1 + x2).toNatClampNeg) = (-9) → Q (some (.int 0)) M)
    (b3 : ¬ (M.1 46 (x1 + x2).toNatClampNeg) = (-9) → vp_in (x1 + x3) 1257)
    (h4 : ¬ (M.1 46 (x1 + x2).toNatClampNeg) = (-9) → (M.1 46 (x1 + x3).toNatClampNeg) = (-9) → Q (some (.int 0)) M)
    (b5 : ¬ (M.1 46 (x1 + x2).toNatClampNeg) = (-9) → ¬ (M.1 46 (x1 + x3).toNatClampNeg) = (-9) → vp_in (x1 + x2) 1257)
    (b6 : ¬ (M.1 46 (x1 + x2).toNatClampNeg) = (-9) → ¬ (M.1 46 (x1 + x3).toNatClampNeg) = (-9) → vp_in (x1 + x3) 1257)
    (h7 : ¬ (M.1 46 (x1 + x2).toNatClampNeg) = (-9) → ¬ (M.1 46 (x1 + x3).toNatClampNeg) = (-9) → (M.1 46 (x1 + x2).toNatClampNeg) = (M.1 46 (x1 + x3).toNatClampNeg) → Q (some (.int 0)) M)
    (h8 : ¬ (M.1 46 (x1 + x2).toNatClampNeg) = (-9) → ¬ (M.1 46 (x1 + x3).toNatClampNeg) = (-9) → ¬ (M.1 46 (x1 + x2).toNatClampNeg) = (M.1 46 (x1 + x3).toNatClampNeg) → Q (some (.int 1)) M) :
    WX mi_M_part 1 Q 0 [some (.ref 46), some (.int x1), some (.int x2), some (.int x3)] [] M := by
  refine WX.run (pc' := 7) (L' := [some (.ref 46), some (.int x1), some (.int x2), some (.int x3)]) (st' := [.int (-9), .int (M.1 46 (x1 + x2).toNatClampNeg)]) (M' := M) (P := (True ∧ vp_in (x1 + x2) 1257)) 6 rfl ⟨trivial, b1⟩ ?_
  refine WX.icmp_eq (off := 30) (tgt := 37) rfl rfl (fun c1 => ?_) (fun c1 => ?_)
  · refine WX.run (pc' := 38) (L' := [some (.ref 46), some (.int x1), some (.int x2), some (.int x3)]) (st' := [.int 0]) (M' := M) (P := True) 1 rfl trivial ?_
    exact WX.zret rfl rfl (Or.inl rfl) (h2 c1)
  · refine WX.run (pc' := 17) (L' := [some (.ref 46), some (.int x1), some (.int x2), some (.int x3)]) (st' := [.int (-9), .int (M.1 46 (x1 + x3).toNatClampNeg)]) (M' := M) (P := (True ∧ vp_in (x1 + x3) 1257)) 6 rfl ⟨trivial, (b3 c1)⟩ ?_
    refine WX.icmp_eq (off := 20) (tgt := 37) rfl rfl (fun c2 => ?_) (fun c2 => ?_)
    · refine WX.run (pc' := 38) (L' := [some (.ref 46), some (.int x1), some (.int x2), some (.int x3)]) (st' := [.int 0]) (M' := M) (P := True) 1 rfl trivial ?_
      exact WX.zret rfl rfl (Or.inl rfl) (h4 c1 c2)
    · refine WX.run (pc' := 30) (L' := [some (.ref 46), some (.int x1), some (.int x2), some (.int x3)]) (st' := [.int (M.1 46 (x1 + x3).toNatClampNeg), .int (M.1 46 (x1 + x2).toNatClampNeg)]) (M' := M) (P := ((True ∧ vp_in (x1 + x2) 1257) ∧ vp_in (x1 + x3) 1257)) 10 rfl ⟨⟨trivial, (b5 c1 c2)⟩, (b6 c1 c2)⟩ ?_
      refine WX.icmp_eq (off := 7) (tgt := 37) rfl rfl (fun c3 => ?_) (fun c3 => ?_)
      · refine WX.run (pc' := 38) (L' := [some (.ref 46), some (.int x1), some (.int x2), some (.int x3)]) (st' := [.int 0]) (M' := M) (P := True) 1 rfl trivial ?_
        exact WX.zret rfl rfl (Or.inl rfl) (h7 c1 c2 c3)
      · refine WX.run (pc' := 38) (L' := [some (.ref 46), some (.int x1), some (.int x2), some (.int x3)]) (st' := [.int 1]) (M' := M) (P := True) 2 rfl trivial ?_
        exact WX.zret rfl rfl (Or.inr rfl) (h8 c1 c2 c3)
def z_M_part_46 (M : Mem) (x1 x2 x3 : Int32) : Int32 := (if (M.1 46 (x1 + x2).toNatClampNeg) = (-9) then 0 else (if (M.1 46 (x1 + x3).toNatClampNeg) = (-9) then 0 else (if (M.1 46 (x1 + x2).toNatClampNeg) = (M.1 46 (x1 + x3).toNatClampNeg) then 0 else 1)))
theorem wx_M_part_46 {Q : Option Value → Mem → Prop} (M : Mem) (x1 x2 x3 : Int32)
    (b1 : vp_in (x1 + x2) 1257)
    (b3 : ¬ (M.1 46 (x1 + x2).toNatClampNeg) = (-9) → vp_in (x1 + x3) 1257)
    (b5 : ¬ (M.1 46 (x1 + x2).toNatClampNeg) = (-9) → ¬ (M.1 46 (x1 + x3).toNatClampNeg) = (-9) → vp_in (x1 + x2) 1257)
    (b6 : ¬ (M.1 46 (x1 + x2).toNatClampNeg) = (-9) → ¬ (M.1 46 (x1 + x3).toNatClampNeg) = (-9) → vp_in (x1 + x3) 1257)
    (h : Q (some (.int (z_M_part_46 M x1 x2 x3))) M) :
    WX mi_M_part 1 Q 0 [some (.ref 46), some (.int x1), some (.int x2), some (.int x3)] [] M := by
  refine sg_M_part_46_0 M x1 x2 x3
    b1
    (fun c1 => by
      unfold z_M_part_46 at h
      rw [if_pos c1] at h
      exact h)
    b3
    (fun c1 c2 => by
      unfold z_M_part_46 at h
      rw [if_neg c1, if_pos c2] at h
      exact h)
    b5
    b6
    (fun c1 c2 c3 => by
      unfold z_M_part_46 at h
      rw [if_neg c1, if_neg c2, if_pos c3] at h
      exact h)
    (fun c1 c2 c3 => by
      unfold z_M_part_46 at h
      rw [if_neg c1, if_neg c2, if_neg c3] at h
      exact h)
theorem sg_M_put_46_0 {Q : Option Value → Mem → Prop} (M : Mem) (x1 x2 x3 : Int32)
    (h1 : WX mi_M_put 1 Q 3 [some (.ref 46), some (.int x1), some (.int x2), some (.int x3), some (.int 0)] [] M) :
    WX mi_M_put 1 Q 0 [some (.ref 46), some (.int x1), some (.int x2), some (.int x3), none] [] M := by
  refine WX.run (pc' := 3) (L' := [some (.ref 46), some (.int x1), some (.int x2), some (.int x3), some (.int 0)]) (st' := []) (M' := M) (P := True) 2 rfl trivial ?_
  exact h1
theorem sg_M_put_46_3 {Q : Option Value → Mem → Prop} (M : Mem) (x1 x2 x3 x4 : Int32)
    (h1 : 16 ≤ x4 → Q none M)
    (b2 : ¬ 16 ≤ x4 → ¬ ((shr x2 x4) &&& 1) = 1 → vp_in (x1 + x4) 1257)
    (h3 : ¬ 16 ≤ x4 → ¬ ((shr x2 x4) &&& 1) = 1 → WX mi_M_put 1 Q 3 [some (.ref 46), some (.int x1), some (.int x2), some (.int x3), some (.int (x4 + 1))] [] (wr M 46 (x1 + x4).toNatClampNeg (M.1 46 (x1 + x4).toNatClampNeg)))
    (b4 : ¬ 16 ≤ x4 → ((shr x2 x4) &&& 1) = 1 → vp_in (x1 + x4) 1257)
    (h5 : ¬ 16 ≤ x4 → ((shr x2 x4) &&& 1) = 1 → WX mi_M_put 1 Q 3 [some (.ref 46), some (.int x1), some (.int x2), some (.int x3), some (.int (x4 + 1))] [] (wr M 46 (x1 + x4).toNatClampNeg x3)) :
    WX mi_M_put 1 Q 3 [some (.ref 46), some (.int x1), some (.int x2), some (.int x3), some (.int x4)] [] M := by
  refine WX.run (pc' := 7) (L' := [some (.ref 46), some (.int x1), some (.int x2), some (.int x3), some (.int x4)]) (st' := [.int 16, .int x4]) (M' := M) (P := True) 2 rfl trivial ?_
  refine WX.icmp_ge (off := 35) (tgt := 42) rfl rfl (fun c1 => ?_) (fun c1 => ?_)
  · exact WX.vret rfl rfl (h1 c1)
  · refine WX.run (pc' := 22) (L' := [some (.ref 46), some (.int x1), some (.int x2), some (.int x3), some (.int x4)]) (st' := [.int 1, .int ((shr x2 x4) &&& 1), .int (x1 + x4), .ref 46]) (M' := M) (P := True) 10 rfl trivial ?_
    refine WX.icmp_ne (off := 7) (tgt := 29) rfl rfl (fun c2 => ?_) (fun c2 => ?_)
    · refine WX.run (pc' := 3) (L' := [some (.ref 46), some (.int x1), some (.int x2), some (.int x3), some (.int (x4 + 1))]) (st' := []) (M' := (wr M 46 (x1 + x4).toNatClampNeg (M.1 46 (x1 + x4).toNatClampNeg))) (P := ((True ∧ vp_in (x1 + x4) 1257) ∧ vp_in (x1 + x4) 1257)) 8 rfl ⟨⟨trivial, (b2 c1 c2)⟩, (b2 c1 c2)⟩ ?_
      exact (h3 c1 c2)
    · refine WX.run (pc' := 3) (L' := [some (.ref 46), some (.int x1), some (.int x2), some (.int x3), some (.int (x4 + 1))]) (st' := []) (M' := (wr M 46 (x1 + x4).toNatClampNeg x3)) (P := (True ∧ vp_in (x1 + x4) 1257)) 5 rfl ⟨trivial, (b4 c1 c2)⟩ ?_
      exact (h5 c1 c2)
theorem sg_M_freeBy_37_46_0 {Q : Option Value → Mem → Prop} (M : Mem) (x2 : Int32)
    (h1 : WX mi_M_freeBy 4 Q 5 [some (.ref 37), some (.ref 46), some (.int x2), some (.int 0), some (.int 0)] [] M) :
    WX mi_M_freeBy 4 Q 0 [some (.ref 37), some (.ref 46), some (.int x2), none, none] [] M := by
  refine WX.run (pc' := 5) (L' := [some (.ref 37), some (.ref 46), some (.int x2), some (.int 0), some (.int 0)]) (st' := []) (M' := M) (P := True) 4 rfl trivial ?_
  exact h1
theorem sg_M_freeBy_37_46_5 {Q : Option Value → Mem → Prop} (M : Mem) (x2 x3 x4 : Int32)
    (h1 : 16 ≤ x4 → Q (some (.int x3)) M)
    (b2 : ¬ 16 ≤ x4 → ((z_M_isCell_37 M (rem x4 4) (x4 / 4)) = 0 ∨ (z_M_isCell_37 M (rem x4 4) (x4 / 4)) = 1))
    (h3 : ¬ 16 ≤ x4 → (z_M_isThere_37 M x4) = 0 → WX mi_M_freeBy 4 Q 5 [some (.ref 37), some (.ref 46), some (.int x2), some (.int (x3 ||| 0)), some (.int (x4 + 1))] [] M)
    (h4 : ¬ 16 ≤ x4 → ¬ (z_M_isThere_37 M x4) = 0 → ¬ (z_M_isLid_37 M x4) = 0 → WX mi_M_freeBy 4 Q 5 [some (.ref 37), some (.ref 46), some (.int x2), some (.int (x3 ||| 0)), some (.int (x4 + 1))] [] M)
    (h5 : ¬ 16 ≤ x4 → ¬ (z_M_isThere_37 M x4) = 0 → (z_M_isLid_37 M x4) = 0 → ¬ (z_M_isDrain_37 M x4) = 0 → WX mi_M_freeBy 4 Q 5 [some (.ref 37), some (.ref 46), some (.int x2), some (.int (x3 ||| 0)), some (.int (x4 + 1))] [] M)
    (b6 : ¬ 16 ≤ x4 → ¬ (z_M_isThere_37 M x4) = 0 → (z_M_isLid_37 M x4) = 0 → (z_M_isDrain_37 M x4) = 0 → vp_in (x2 + x4) 1257)
    (h7 : ¬ 16 ≤ x4 → ¬ (z_M_isThere_37 M x4) = 0 → (z_M_isLid_37 M x4) = 0 → (z_M_isDrain_37 M x4) = 0 → ¬ (M.1 46 (x2 + x4).toNatClampNeg) = (-9) → WX mi_M_freeBy 4 Q 5 [some (.ref 37), some (.ref 46), some (.int x2), some (.int (x3 ||| 0)), some (.int (x4 + 1))] [] M)
    (h8 : ¬ 16 ≤ x4 → ¬ (z_M_isThere_37 M x4) = 0 → (z_M_isLid_37 M x4) = 0 → (z_M_isDrain_37 M x4) = 0 → (M.1 46 (x2 + x4).toNatClampNeg) = (-9) → WX mi_M_freeBy 4 Q 5 [some (.ref 37), some (.ref 46), some (.int x2), some (.int (x3 ||| (shl 1 x4))), some (.int (x4 + 1))] [] M) :
    WX mi_M_freeBy 4 Q 5 [some (.ref 37), some (.ref 46), some (.int x2), some (.int x3), some (.int x4)] [] M := by
  refine WX.run (pc' := 9) (L' := [some (.ref 37), some (.ref 46), some (.int x2), some (.int x3), some (.int x4)]) (st' := [.int 16, .int x4]) (M' := M) (P := True) 2 rfl trivial ?_
  refine WX.icmp_ge (off := 58) (tgt := 67) rfl rfl (fun c1 => ?_) (fun c1 => ?_)
  · refine WX.run (pc' := 68) (L' := [some (.ref 37), some (.ref 46), some (.int x2), some (.int x3), some (.int x4)]) (st' := [.int x3]) (M' := M) (P := True) 1 rfl trivial ?_
    exact WX.iret rfl rfl (h1 c1)
  · refine WX.run (pc' := 16) (L' := [some (.ref 37), some (.ref 46), some (.int x2), some (.int x3), some (.int x4)]) (st' := [.int x4, .ref 37, .int x3]) (M' := M) (P := True) 3 rfl trivial ?_
    refine WX.callV (ca := mi_M_isThere) (n := 1) (d' := 3) (st := [.int x3]) (As := [.int x4]) (q := 37) rfl lk_7_148 ck_M_isThere cv_M_isThere rfl (by decide) rfl (Nat.le_of_ble_eq_true rfl) ⟨by decide, rfl, by decide⟩ (by intro w hw; simp only [List.mem_cons, List.not_mem_nil, or_false] at hw; rcases hw with rfl <;> rfl) (Nat.le_of_ble_eq_true rfl) ?_
    refine wx_M_isThere_37 M x4 (b2 c1) ?_
    show WX mi_M_freeBy 4 Q 19 [some (.ref 37), some (.ref 46), some (.int x2), some (.int x3), some (.int x4)] [.int (z_M_isThere_37 M x4), .int x3] M
    refine WX.if_eq (off := 39) (tgt := 58) rfl rfl (fun c2 => ?_) (fun c2 => ?_)
    · refine WX.run (pc' := 5) (L' := [some (.ref 37), some (.ref 46), some (.int x2), some (.int (x3 ||| 0)), some (.int (x4 + 1))]) (st' := []) (M' := M) (P := True) 5 rfl trivial ?_
      exact (h3 c1 c2)
    · refine WX.run (pc' := 25) (L' := [some (.ref 37), some (.ref 46), some (.int x2), some (.int x3), some (.int x4)]) (st' := [.int x4, .ref 37, .int x3]) (M' := M) (P := True) 2 rfl trivial ?_
      refine WX.callV (ca := mi_M_isLid) (n := 1) (d' := 1) (st := [.int x3]) (As := [.int x4]) (q := 37) rfl lk_7_134 ck_M_isLid cv_M_isLid rfl (by decide) rfl (Nat.le_of_ble_eq_true rfl) ⟨by decide, rfl, by decide⟩ (by intro w hw; simp only [List.mem_cons, List.not_mem_nil, or_false] at hw; rcases hw with rfl <;> rfl) (Nat.le_of_ble_eq_true rfl) ?_
      refine wx_M_isLid_37 M x4 ?_
      show WX mi_M_freeBy 4 Q 28 [some (.ref 37), some (.ref 46), some (.int x2), some (.int x3), some (.int x4)] [.int (z_M_isLid_37 M x4), .int x3] M
      refine WX.if_ne (off := 30) (tgt := 58) rfl rfl (fun c3 => ?_) (fun c3 => ?_)
      · refine WX.run (pc' := 5) (L' := [some (.ref 37), some (.ref 46), some (.int x2), some (.int (x3 ||| 0)), some (.int (x4 + 1))]) (st' := []) (M' := M) (P := True) 5 rfl trivial ?_
        exact (h4 c1 c2 c3)
      · refine WX.run (pc' := 34) (L' := [some (.ref 37), some (.ref 46), some (.int x2), some (.int x3), some (.int x4)]) (st' := [.int x4, .ref 37, .int x3]) (M' := M) (P := True) 2 rfl trivial ?_
        refine WX.callV (ca := mi_M_isDrain) (n := 1) (d' := 1) (st := [.int x3]) (As := [.int x4]) (q := 37) rfl lk_7_138 ck_M_isDrain cv_M_isDrain rfl (by decide) rfl (Nat.le_of_ble_eq_true rfl) ⟨by decide, rfl, by decide⟩ (by intro w hw; simp only [List.mem_cons, List.not_mem_nil, or_false] at hw; rcases hw with rfl <;> rfl) (Nat.le_of_ble_eq_true rfl) ?_
        refine wx_M_isDrain_37 M x4 ?_
        show WX mi_M_freeBy 4 Q 37 [some (.ref 37), some (.ref 46), some (.int x2), some (.int x3), some (.int x4)] [.int (z_M_isDrain_37 M x4), .int x3] M
        refine WX.if_ne (off := 21) (tgt := 58) rfl rfl (fun c4 => ?_) (fun c4 => ?_)
        · refine WX.run (pc' := 5) (L' := [some (.ref 37), some (.ref 46), some (.int x2), some (.int (x3 ||| 0)), some (.int (x4 + 1))]) (st' := []) (M' := M) (P := True) 5 rfl trivial ?_
          exact (h5 c1 c2 c3 c4)
        · refine WX.run (pc' := 48) (L' := [some (.ref 37), some (.ref 46), some (.int x2), some (.int x3), some (.int x4)]) (st' := [.int (-9), .int (M.1 46 (x2 + x4).toNatClampNeg), .int x3]) (M' := M) (P := (True ∧ vp_in (x2 + x4) 1257)) 6 rfl ⟨trivial, (b6 c1 c2 c3 c4)⟩ ?_
          refine WX.icmp_ne (off := 10) (tgt := 58) rfl rfl (fun c5 => ?_) (fun c5 => ?_)
          · refine WX.run (pc' := 5) (L' := [some (.ref 37), some (.ref 46), some (.int x2), some (.int (x3 ||| 0)), some (.int (x4 + 1))]) (st' := []) (M' := M) (P := True) 5 rfl trivial ?_
            exact (h7 c1 c2 c3 c4 c5)
          · refine WX.run (pc' := 5) (L' := [some (.ref 37), some (.ref 46), some (.int x2), some (.int (x3 ||| (shl 1 x4))), some (.int (x4 + 1))]) (st' := []) (M' := M) (P := True) 8 rfl trivial ?_
            exact (h8 c1 c2 c3 c4 c5)
theorem sg_M_crosses_37_46_0 {Q : Option Value → Mem → Prop} (M : Mem) (x2 : Int32)
    (h1 : WX mi_M_crosses 4 Q 5 [some (.ref 37), some (.ref 46), some (.int x2), some (.int 0), some (.int 0), none] [] M) :
    WX mi_M_crosses 4 Q 0 [some (.ref 37), some (.ref 46), some (.int x2), none, none, none] [] M := by
  refine WX.run (pc' := 5) (L' := [some (.ref 37), some (.ref 46), some (.int x2), some (.int 0), some (.int 0), none]) (st' := []) (M' := M) (P := True) 4 rfl trivial ?_
  exact h1
theorem sg_M_crosses_37_46_5 {Q : Option Value → Mem → Prop} (M : Mem) (x2 x3 x4 : Int32)
    (h1 : 16 ≤ x4 → Q (some (.int x3)) M)
    (b2 : ¬ 16 ≤ x4 → ((z_M_isCell_37 M (rem x4 4) (x4 / 4)) = 0 ∨ (z_M_isCell_37 M (rem x4 4) (x4 / 4)) = 1))
    (h3 : ¬ 16 ≤ x4 → (z_M_isThere_37 M x4) = 0 → WX mi_M_crosses 4 Q 5 [some (.ref 37), some (.ref 46), some (.int x2), some (.int x3), some (.int (x4 + 1)), none] [] M)
    (h4 : ¬ 16 ≤ x4 → ¬ (z_M_isThere_37 M x4) = 0 → (z_M_isCell_37 M ((rem x4 4) + 1) ((x4 / 4) + 1)) = 0 → WX mi_M_crosses 4 Q 5 [some (.ref 37), some (.ref 46), some (.int x2), some (.int x3), some (.int (x4 + 1)), none] [] M)
    (b5 : ¬ 16 ≤ x4 → ¬ (z_M_isThere_37 M x4) = 0 → ¬ (z_M_isCell_37 M ((rem x4 4) + 1) ((x4 / 4) + 1)) = 0 → vp_in (x2 + x4) 1257)
    (b6 : ¬ 16 ≤ x4 → ¬ (z_M_isThere_37 M x4) = 0 → ¬ (z_M_isCell_37 M ((rem x4 4) + 1) ((x4 / 4) + 1)) = 0 → ¬ (M.1 46 (x2 + x4).toNatClampNeg) = (-9) → vp_in (x2 + (x4 + 1)) 1257)
    (b7 : ¬ 16 ≤ x4 → ¬ (z_M_isThere_37 M x4) = 0 → ¬ (z_M_isCell_37 M ((rem x4 4) + 1) ((x4 / 4) + 1)) = 0 → ¬ (M.1 46 (x2 + x4).toNatClampNeg) = (-9) → ¬ (M.1 46 (x2 + (x4 + 1)).toNatClampNeg) = (-9) → vp_in (x2 + x4) 1257)
    (b8 : ¬ 16 ≤ x4 → ¬ (z_M_isThere_37 M x4) = 0 → ¬ (z_M_isCell_37 M ((rem x4 4) + 1) ((x4 / 4) + 1)) = 0 → ¬ (M.1 46 (x2 + x4).toNatClampNeg) = (-9) → ¬ (M.1 46 (x2 + (x4 + 1)).toNatClampNeg) = (-9) → vp_in (x2 + (x4 + 1)) 1257)
    (h9 : ¬ 16 ≤ x4 → ¬ (z_M_isThere_37 M x4) = 0 → ¬ (z_M_isCell_37 M ((rem x4 4) + 1) ((x4 / 4) + 1)) = 0 → (z_M_part_46 M x2 x4 (x4 + 1)) = 0 → WX mi_M_crosses 4 Q 5 [some (.ref 37), some (.ref 46), some (.int x2), some (.int (x3 + 0)), some (.int (x4 + 1)), none] [] M)
    (b10 : ¬ 16 ≤ x4 → ¬ (z_M_isThere_37 M x4) = 0 → ¬ (z_M_isCell_37 M ((rem x4 4) + 1) ((x4 / 4) + 1)) = 0 → ¬ (z_M_part_46 M x2 x4 (x4 + 1)) = 0 → vp_in (x2 + x4) 1257)
    (b11 : ¬ 16 ≤ x4 → ¬ (z_M_isThere_37 M x4) = 0 → ¬ (z_M_isCell_37 M ((rem x4 4) + 1) ((x4 / 4) + 1)) = 0 → ¬ (z_M_part_46 M x2 x4 (x4 + 1)) = 0 → ¬ (M.1 46 (x2 + x4).toNatClampNeg) = (-9) → vp_in (x2 + (x4 + 4)) 1257)
    (b12 : ¬ 16 ≤ x4 → ¬ (z_M_isThere_37 M x4) = 0 → ¬ (z_M_isCell_37 M ((rem x4 4) + 1) ((x4 / 4) + 1)) = 0 → ¬ (z_M_part_46 M x2 x4 (x4 + 1)) = 0 → ¬ (M.1 46 (x2 + x4).toNatClampNeg) = (-9) → ¬ (M.1 46 (x2 + (x4 + 4)).toNatClampNeg) = (-9) → vp_in (x2 + x4) 1257)
    (b13 : ¬ 16 ≤ x4 → ¬ (z_M_isThere_37 M x4) = 0 → ¬ (z_M_isCell_37 M ((rem x4 4) + 1) ((x4 / 4) + 1)) = 0 → ¬ (z_M_part_46 M x2 x4 (x4 + 1)) = 0 → ¬ (M.1 46 (x2 + x4).toNatClampNeg) = (-9) → ¬ (M.1 46 (x2 + (x4 + 4)).toNatClampNeg) = (-9) → vp_in (x2 + (x4 + 4)) 1257)
    (h14 : ¬ 16 ≤ x4 → ¬ (z_M_isThere_37 M x4) = 0 → ¬ (z_M_isCell_37 M ((rem x4 4) + 1) ((x4 / 4) + 1)) = 0 → ¬ (z_M_part_46 M x2 x4 (x4 + 1)) = 0 → (z_M_part_46 M x2 x4 (x4 + 4)) = 0 → WX mi_M_crosses 4 Q 5 [some (.ref 37), some (.ref 46), some (.int x2), some (.int (x3 + 0)), some (.int (x4 + 1)), none] [] M)
    (b15 : ¬ 16 ≤ x4 → ¬ (z_M_isThere_37 M x4) = 0 → ¬ (z_M_isCell_37 M ((rem x4 4) + 1) ((x4 / 4) + 1)) = 0 → ¬ (z_M_part_46 M x2 x4 (x4 + 1)) = 0 → ¬ (z_M_part_46 M x2 x4 (x4 + 4)) = 0 → vp_in (x2 + x4) 1257)
    (b16 : ¬ 16 ≤ x4 → ¬ (z_M_isThere_37 M x4) = 0 → ¬ (z_M_isCell_37 M ((rem x4 4) + 1) ((x4 / 4) + 1)) = 0 → ¬ (z_M_part_46 M x2 x4 (x4 + 1)) = 0 → ¬ (z_M_part_46 M x2 x4 (x4 + 4)) = 0 → ¬ (M.1 46 (x2 + x4).toNatClampNeg) = (-9) → vp_in (x2 + ((x4 + 4) + 1)) 1257)
    (b17 : ¬ 16 ≤ x4 → ¬ (z_M_isThere_37 M x4) = 0 → ¬ (z_M_isCell_37 M ((rem x4 4) + 1) ((x4 / 4) + 1)) = 0 → ¬ (z_M_part_46 M x2 x4 (x4 + 1)) = 0 → ¬ (z_M_part_46 M x2 x4 (x4 + 4)) = 0 → ¬ (M.1 46 (x2 + x4).toNatClampNeg) = (-9) → ¬ (M.1 46 (x2 + ((x4 + 4) + 1)).toNatClampNeg) = (-9) → vp_in (x2 + x4) 1257)
    (b18 : ¬ 16 ≤ x4 → ¬ (z_M_isThere_37 M x4) = 0 → ¬ (z_M_isCell_37 M ((rem x4 4) + 1) ((x4 / 4) + 1)) = 0 → ¬ (z_M_part_46 M x2 x4 (x4 + 1)) = 0 → ¬ (z_M_part_46 M x2 x4 (x4 + 4)) = 0 → ¬ (M.1 46 (x2 + x4).toNatClampNeg) = (-9) → ¬ (M.1 46 (x2 + ((x4 + 4) + 1)).toNatClampNeg) = (-9) → vp_in (x2 + ((x4 + 4) + 1)) 1257)
    (h19 : ¬ 16 ≤ x4 → ¬ (z_M_isThere_37 M x4) = 0 → ¬ (z_M_isCell_37 M ((rem x4 4) + 1) ((x4 / 4) + 1)) = 0 → ¬ (z_M_part_46 M x2 x4 (x4 + 1)) = 0 → ¬ (z_M_part_46 M x2 x4 (x4 + 4)) = 0 → (z_M_part_46 M x2 x4 ((x4 + 4) + 1)) = 0 → WX mi_M_crosses 4 Q 5 [some (.ref 37), some (.ref 46), some (.int x2), some (.int (x3 + 0)), some (.int (x4 + 1)), none] [] M)
    (b20 : ¬ 16 ≤ x4 → ¬ (z_M_isThere_37 M x4) = 0 → ¬ (z_M_isCell_37 M ((rem x4 4) + 1) ((x4 / 4) + 1)) = 0 → ¬ (z_M_part_46 M x2 x4 (x4 + 1)) = 0 → ¬ (z_M_part_46 M x2 x4 (x4 + 4)) = 0 → ¬ (z_M_part_46 M x2 x4 ((x4 + 4) + 1)) = 0 → vp_in (x2 + (x4 + 1)) 1257)
    (b21 : ¬ 16 ≤ x4 → ¬ (z_M_isThere_37 M x4) = 0 → ¬ (z_M_isCell_37 M ((rem x4 4) + 1) ((x4 / 4) + 1)) = 0 → ¬ (z_M_part_46 M x2 x4 (x4 + 1)) = 0 → ¬ (z_M_part_46 M x2 x4 (x4 + 4)) = 0 → ¬ (z_M_part_46 M x2 x4 ((x4 + 4) + 1)) = 0 → ¬ (M.1 46 (x2 + (x4 + 1)).toNatClampNeg) = (-9) → vp_in (x2 + (x4 + 4)) 1257)
    (b22 : ¬ 16 ≤ x4 → ¬ (z_M_isThere_37 M x4) = 0 → ¬ (z_M_isCell_37 M ((rem x4 4) + 1) ((x4 / 4) + 1)) = 0 → ¬ (z_M_part_46 M x2 x4 (x4 + 1)) = 0 → ¬ (z_M_part_46 M x2 x4 (x4 + 4)) = 0 → ¬ (z_M_part_46 M x2 x4 ((x4 + 4) + 1)) = 0 → ¬ (M.1 46 (x2 + (x4 + 1)).toNatClampNeg) = (-9) → ¬ (M.1 46 (x2 + (x4 + 4)).toNatClampNeg) = (-9) → vp_in (x2 + (x4 + 1)) 1257)
    (b23 : ¬ 16 ≤ x4 → ¬ (z_M_isThere_37 M x4) = 0 → ¬ (z_M_isCell_37 M ((rem x4 4) + 1) ((x4 / 4) + 1)) = 0 → ¬ (z_M_part_46 M x2 x4 (x4 + 1)) = 0 → ¬ (z_M_part_46 M x2 x4 (x4 + 4)) = 0 → ¬ (z_M_part_46 M x2 x4 ((x4 + 4) + 1)) = 0 → ¬ (M.1 46 (x2 + (x4 + 1)).toNatClampNeg) = (-9) → ¬ (M.1 46 (x2 + (x4 + 4)).toNatClampNeg) = (-9) → vp_in (x2 + (x4 + 4)) 1257)
    (h24 : ¬ 16 ≤ x4 → ¬ (z_M_isThere_37 M x4) = 0 → ¬ (z_M_isCell_37 M ((rem x4 4) + 1) ((x4 / 4) + 1)) = 0 → ¬ (z_M_part_46 M x2 x4 (x4 + 1)) = 0 → ¬ (z_M_part_46 M x2 x4 (x4 + 4)) = 0 → ¬ (z_M_part_46 M x2 x4 ((x4 + 4) + 1)) = 0 → (z_M_part_46 M x2 (x4 + 1) (x4 + 4)) = 0 → WX mi_M_crosses 4 Q 5 [some (.ref 37), some (.ref 46), some (.int x2), some (.int (x3 + 0)), some (.int (x4 + 1)), none] [] M)
    (b25 : ¬ 16 ≤ x4 → ¬ (z_M_isThere_37 M x4) = 0 → ¬ (z_M_isCell_37 M ((rem x4 4) + 1) ((x4 / 4) + 1)) = 0 → ¬ (z_M_part_46 M x2 x4 (x4 + 1)) = 0 → ¬ (z_M_part_46 M x2 x4 (x4 + 4)) = 0 → ¬ (z_M_part_46 M x2 x4 ((x4 + 4) + 1)) = 0 → ¬ (z_M_part_46 M x2 (x4 + 1) (x4 + 4)) = 0 → vp_in (x2 + (x4 + 1)) 1257)
    (b26 : ¬ 16 ≤ x4 → ¬ (z_M_isThere_37 M x4) = 0 → ¬ (z_M_isCell_37 M ((rem x4 4) + 1) ((x4 / 4) + 1)) = 0 → ¬ (z_M_part_46 M x2 x4 (x4 + 1)) = 0 → ¬ (z_M_part_46 M x2 x4 (x4 + 4)) = 0 → ¬ (z_M_part_46 M x2 x4 ((x4 + 4) + 1)) = 0 → ¬ (z_M_part_46 M x2 (x4 + 1) (x4 + 4)) = 0 → ¬ (M.1 46 (x2 + (x4 + 1)).toNatClampNeg) = (-9) → vp_in (x2 + ((x4 + 4) + 1)) 1257)
    (b27 : ¬ 16 ≤ x4 → ¬ (z_M_isThere_37 M x4) = 0 → ¬ (z_M_isCell_37 M ((rem x4 4) + 1) ((x4 / 4) + 1)) = 0 → ¬ (z_M_part_46 M x2 x4 (x4 + 1)) = 0 → ¬ (z_M_part_46 M x2 x4 (x4 + 4)) = 0 → ¬ (z_M_part_46 M x2 x4 ((x4 + 4) + 1)) = 0 → ¬ (z_M_part_46 M x2 (x4 + 1) (x4 + 4)) = 0 → ¬ (M.1 46 (x2 + (x4 + 1)).toNatClampNeg) = (-9) → ¬ (M.1 46 (x2 + ((x4 + 4) + 1)).toNatClampNeg) = (-9) → vp_in (x2 + (x4 + 1)) 1257)
    (b28 : ¬ 16 ≤ x4 → ¬ (z_M_isThere_37 M x4) = 0 → ¬ (z_M_isCell_37 M ((rem x4 4) + 1) ((x4 / 4) + 1)) = 0 → ¬ (z_M_part_46 M x2 x4 (x4 + 1)) = 0 → ¬ (z_M_part_46 M x2 x4 (x4 + 4)) = 0 → ¬ (z_M_part_46 M x2 x4 ((x4 + 4) + 1)) = 0 → ¬ (z_M_part_46 M x2 (x4 + 1) (x4 + 4)) = 0 → ¬ (M.1 46 (x2 + (x4 + 1)).toNatClampNeg) = (-9) → ¬ (M.1 46 (x2 + ((x4 + 4) + 1)).toNatClampNeg) = (-9) → vp_in (x2 + ((x4 + 4) + 1)) 1257)
    (h29 : ¬ 16 ≤ x4 → ¬ (z_M_isThere_37 M x4) = 0 → ¬ (z_M_isCell_37 M ((rem x4 4) + 1) ((x4 / 4) + 1)) = 0 → ¬ (z_M_part_46 M x2 x4 (x4 + 1)) = 0 → ¬ (z_M_part_46 M x2 x4 (x4 + 4)) = 0 → ¬ (z_M_part_46 M x2 x4 ((x4 + 4) + 1)) = 0 → ¬ (z_M_part_46 M x2 (x4 + 1) (x4 + 4)) = 0 → (z_M_part_46 M x2 (x4 + 1) ((x4 + 4) + 1)) = 0 → WX mi_M_crosses 4 Q 5 [some (.ref 37), some (.ref 46), some (.int x2), some (.int (x3 + 0)), some (.int (x4 + 1)), none] [] M)
    (b30 : ¬ 16 ≤ x4 → ¬ (z_M_isThere_37 M x4) = 0 → ¬ (z_M_isCell_37 M ((rem x4 4) + 1) ((x4 / 4) + 1)) = 0 → ¬ (z_M_part_46 M x2 x4 (x4 + 1)) = 0 → ¬ (z_M_part_46 M x2 x4 (x4 + 4)) = 0 → ¬ (z_M_part_46 M x2 x4 ((x4 + 4) + 1)) = 0 → ¬ (z_M_part_46 M x2 (x4 + 1) (x4 + 4)) = 0 → ¬ (z_M_part_46 M x2 (x4 + 1) ((x4 + 4) + 1)) = 0 → vp_in (x2 + (x4 + 4)) 1257)
    (b31 : ¬ 16 ≤ x4 → ¬ (z_M_isThere_37 M x4) = 0 → ¬ (z_M_isCell_37 M ((rem x4 4) + 1) ((x4 / 4) + 1)) = 0 → ¬ (z_M_part_46 M x2 x4 (x4 + 1)) = 0 → ¬ (z_M_part_46 M x2 x4 (x4 + 4)) = 0 → ¬ (z_M_part_46 M x2 x4 ((x4 + 4) + 1)) = 0 → ¬ (z_M_part_46 M x2 (x4 + 1) (x4 + 4)) = 0 → ¬ (z_M_part_46 M x2 (x4 + 1) ((x4 + 4) + 1)) = 0 → ¬ (M.1 46 (x2 + (x4 + 4)).toNatClampNeg) = (-9) → vp_in (x2 + ((x4 + 4) + 1)) 1257)
    (b32 : ¬ 16 ≤ x4 → ¬ (z_M_isThere_37 M x4) = 0 → ¬ (z_M_isCell_37 M ((rem x4 4) + 1) ((x4 / 4) + 1)) = 0 → ¬ (z_M_part_46 M x2 x4 (x4 + 1)) = 0 → ¬ (z_M_part_46 M x2 x4 (x4 + 4)) = 0 → ¬ (z_M_part_46 M x2 x4 ((x4 + 4) + 1)) = 0 → ¬ (z_M_part_46 M x2 (x4 + 1) (x4 + 4)) = 0 → ¬ (z_M_part_46 M x2 (x4 + 1) ((x4 + 4) + 1)) = 0 → ¬ (M.1 46 (x2 + (x4 + 4)).toNatClampNeg) = (-9) → ¬ (M.1 46 (x2 + ((x4 + 4) + 1)).toNatClampNeg) = (-9) → vp_in (x2 + (x4 + 4)) 1257)
    (b33 : ¬ 16 ≤ x4 → ¬ (z_M_isThere_37 M x4) = 0 → ¬ (z_M_isCell_37 M ((rem x4 4) + 1) ((x4 / 4) + 1)) = 0 → ¬ (z_M_part_46 M x2 x4 (x4 + 1)) = 0 → ¬ (z_M_part_46 M x2 x4 (x4 + 4)) = 0 → ¬ (z_M_part_46 M x2 x4 ((x4 + 4) + 1)) = 0 → ¬ (z_M_part_46 M x2 (x4 + 1) (x4 + 4)) = 0 → ¬ (z_M_part_46 M x2 (x4 + 1) ((x4 + 4) + 1)) = 0 → ¬ (M.1 46 (x2 + (x4 + 4)).toNatClampNeg) = (-9) → ¬ (M.1 46 (x2 + ((x4 + 4) + 1)).toNatClampNeg) = (-9) → vp_in (x2 + ((x4 + 4) + 1)) 1257)
    (h34 : ¬ 16 ≤ x4 → ¬ (z_M_isThere_37 M x4) = 0 → ¬ (z_M_isCell_37 M ((rem x4 4) + 1) ((x4 / 4) + 1)) = 0 → ¬ (z_M_part_46 M x2 x4 (x4 + 1)) = 0 → ¬ (z_M_part_46 M x2 x4 (x4 + 4)) = 0 → ¬ (z_M_part_46 M x2 x4 ((x4 + 4) + 1)) = 0 → ¬ (z_M_part_46 M x2 (x4 + 1) (x4 + 4)) = 0 → ¬ (z_M_part_46 M x2 (x4 + 1) ((x4 + 4) + 1)) = 0 → (z_M_part_46 M x2 (x4 + 4) ((x4 + 4) + 1)) = 0 → WX mi_M_crosses 4 Q 5 [some (.ref 37), some (.ref 46), some (.int x2), some (.int (x3 + 0)), some (.int (x4 + 1)), none] [] M)
    (h35 : ¬ 16 ≤ x4 → ¬ (z_M_isThere_37 M x4) = 0 → ¬ (z_M_isCell_37 M ((rem x4 4) + 1) ((x4 / 4) + 1)) = 0 → ¬ (z_M_part_46 M x2 x4 (x4 + 1)) = 0 → ¬ (z_M_part_46 M x2 x4 (x4 + 4)) = 0 → ¬ (z_M_part_46 M x2 x4 ((x4 + 4) + 1)) = 0 → ¬ (z_M_part_46 M x2 (x4 + 1) (x4 + 4)) = 0 → ¬ (z_M_part_46 M x2 (x4 + 1) ((x4 + 4) + 1)) = 0 → ¬ (z_M_part_46 M x2 (x4 + 4) ((x4 + 4) + 1)) = 0 → WX mi_M_crosses 4 Q 5 [some (.ref 37), some (.ref 46), some (.int x2), some (.int (x3 + 1)), some (.int (x4 + 1)), none] [] M) :
    WX mi_M_crosses 4 Q 5 [some (.ref 37), some (.ref 46), some (.int x2), some (.int x3), some (.int x4), none] [] M := by
  refine WX.run (pc' := 9) (L' := [some (.ref 37), some (.ref 46), some (.int x2), some (.int x3), some (.int x4), none]) (st' := [.int 16, .int x4]) (M' := M) (P := True) 2 rfl trivial ?_
  refine WX.icmp_ge (off := 165) (tgt := 174) rfl rfl (fun c1 => ?_) (fun c1 => ?_)
  · refine WX.run (pc' := 175) (L' := [some (.ref 37), some (.ref 46), some (.int x2), some (.int x3), some (.int x4), none]) (st' := [.int x3]) (M' := M) (P := True) 1 rfl trivial ?_
    exact WX.iret rfl rfl (h1 c1)
  · refine WX.run (pc' := 15) (L' := [some (.ref 37), some (.ref 46), some (.int x2), some (.int x3), some (.int x4), none]) (st' := [.int x4, .ref 37]) (M' := M) (P := True) 2 rfl trivial ?_
    refine WX.callV (ca := mi_M_isThere) (n := 1) (d' := 3) (st := []) (As := [.int x4]) (q := 37) rfl lk_7_148 ck_M_isThere cv_M_isThere rfl (by decide) rfl (Nat.le_of_ble_eq_true rfl) ⟨by decide, rfl, by decide⟩ (by intro w hw; simp only [List.mem_cons, List.not_mem_nil, or_false] at hw; rcases hw with rfl <;> rfl) (Nat.le_of_ble_eq_true rfl) ?_
    refine wx_M_isThere_37 M x4 (b2 c1) ?_
    show WX mi_M_crosses 4 Q 18 [some (.ref 37), some (.ref 46), some (.int x2), some (.int x3), some (.int x4), none] [.int (z_M_isThere_37 M x4)] M
    refine WX.if_eq (off := 150) (tgt := 168) rfl rfl (fun c2 => ?_) (fun c2 => ?_)
    · refine WX.run (pc' := 5) (L' := [some (.ref 37), some (.ref 46), some (.int x2), some (.int x3), some (.int (x4 + 1)), none]) (st' := []) (M' := M) (P := True) 2 rfl trivial ?_
      exact (h3 c1 c2)
    · refine WX.run (pc' := 34) (L' := [some (.ref 37), some (.ref 46), some (.int x2), some (.int x3), some (.int x4), none]) (st' := [.int ((x4 / 4) + 1), .int ((rem x4 4) + 1), .ref 37]) (M' := M) (P := ((True ∧ ¬ 4 = 0) ∧ ¬ 4 = 0)) 11 rfl ⟨⟨trivial, (by decide)⟩, (by decide)⟩ ?_
      refine WX.callV (ca := mi_M_isCell) (n := 2) (d' := 2) (st := []) (As := [.int ((rem x4 4) + 1), .int ((x4 / 4) + 1)]) (q := 37) rfl lk_7_131 ck_M_isCell cv_M_isCell rfl (by decide) rfl (Nat.le_of_ble_eq_true rfl) ⟨by decide, rfl, by decide⟩ (by intro w hw; simp only [List.mem_cons, List.not_mem_nil, or_false] at hw; rcases hw with rfl | rfl <;> rfl) (Nat.le_of_ble_eq_true rfl) ?_
      refine wx_M_isCell_37 M ((rem x4 4) + 1) ((x4 / 4) + 1) ?_
      show WX mi_M_crosses 4 Q 37 [some (.ref 37), some (.ref 46), some (.int x2), some (.int x3), some (.int x4), none] [.int (z_M_isCell_37 M ((rem x4 4) + 1) ((x4 / 4) + 1))] M
      refine WX.if_eq (off := 131) (tgt := 168) rfl rfl (fun c3 => ?_) (fun c3 => ?_)
      · refine WX.run (pc' := 5) (L' := [some (.ref 37), some (.ref 46), some (.int x2), some (.int x3), some (.int (x4 + 1)), none]) (st' := []) (M' := M) (P := True) 2 rfl trivial ?_
        exact (h4 c1 c2 c3)
      · refine WX.run (pc' := 48) (L' := [some (.ref 37), some (.ref 46), some (.int x2), some (.int x3), some (.int x4), none]) (st' := [.int (x4 + 1), .int x4, .int x2, .ref 46]) (M' := M) (P := True) 6 rfl trivial ?_
        refine WX.callS (ca := mi_M_part) (n := 4) (d' := 1) (st := []) (As := [.ref 46, .int x2, .int x4, .int (x4 + 1)]) rfl lk_7_165 ck_M_part cs_M_part rfl (by decide) rfl (Nat.le_of_ble_eq_true rfl) (by intro w hw; simp only [List.mem_cons, List.not_mem_nil, or_false] at hw; rcases hw with rfl | rfl | rfl | rfl <;> rfl) (Nat.le_of_ble_eq_true rfl) ?_
        refine wx_M_part_46 M x2 x4 (x4 + 1) (b5 c1 c2 c3) (b6 c1 c2 c3) (b7 c1 c2 c3) (b8 c1 c2 c3) ?_
        show WX mi_M_crosses 4 Q 51 [some (.ref 37), some (.ref 46), some (.int x2), some (.int x3), some (.int x4), none] [.int (z_M_part_46 M x2 x4 (x4 + 1))] M
        refine WX.if_eq (off := 37) (tgt := 88) rfl rfl (fun c4 => ?_) (fun c4 => ?_)
        · refine WX.run (pc' := 93) (L' := [some (.ref 37), some (.ref 46), some (.int x2), some (.int x3), some (.int x4), some (.int 0)]) (st' := [.int 0]) (M' := M) (P := True) 3 rfl trivial ?_
          refine WX.if_eq (off := 59) (tgt := 152) rfl rfl (fun _ => ?_) (fun c => absurd (by decide) c)
          refine WX.run (pc' := 158) (L' := [some (.ref 37), some (.ref 46), some (.int x2), some (.int x3), some (.int x4), some (.int 0)]) (st' := [.int 0, .int x3]) (M' := M) (P := True) 4 rfl trivial ?_
          refine WX.if_eq (off := 7) (tgt := 165) rfl rfl (fun _ => ?_) (fun c => absurd (by decide) c)
          refine WX.run (pc' := 5) (L' := [some (.ref 37), some (.ref 46), some (.int x2), some (.int (x3 + 0)), some (.int (x4 + 1)), some (.int 0)]) (st' := []) (M' := M) (P := True) 5 rfl trivial ?_
          refine WX.forget2 (L' := [some (.ref 37), some (.ref 46), some (.int x2), some (.int (x3 + 0)), some (.int (x4 + 1)), none]) ?_ ⟨Or.inr rfl, Or.inr rfl, Or.inr rfl, Or.inr rfl, Or.inr rfl, Or.inl rfl, trivial⟩
          exact (h9 c1 c2 c3 c4)
        · refine WX.run (pc' := 62) (L' := [some (.ref 37), some (.ref 46), some (.int x2), some (.int x3), some (.int x4), none]) (st' := [.int (x4 + 4), .int x4, .int x2, .ref 46]) (M' := M) (P := True) 6 rfl trivial ?_
          refine WX.callS (ca := mi_M_part) (n := 4) (d' := 1) (st := []) (As := [.ref 46, .int x2, .int x4, .int (x4 + 4)]) rfl lk_7_165 ck_M_part cs_M_part rfl (by decide) rfl (Nat.le_of_ble_eq_true rfl) (by intro w hw; simp only [List.mem_cons, List.not_mem_nil, or_false] at hw; rcases hw with rfl | rfl | rfl | rfl <;> rfl) (Nat.le_of_ble_eq_true rfl) ?_
          refine wx_M_part_46 M x2 x4 (x4 + 4) (b10 c1 c2 c3 c4) (b11 c1 c2 c3 c4) (b12 c1 c2 c3 c4) (b13 c1 c2 c3 c4) ?_
          show WX mi_M_crosses 4 Q 65 [some (.ref 37), some (.ref 46), some (.int x2), some (.int x3), some (.int x4), none] [.int (z_M_part_46 M x2 x4 (x4 + 4))] M
          refine WX.if_eq (off := 23) (tgt := 88) rfl rfl (fun c5 => ?_) (fun c5 => ?_)
          · refine WX.run (pc' := 93) (L' := [some (.ref 37), some (.ref 46), some (.int x2), some (.int x3), some (.int x4), some (.int 0)]) (st' := [.int 0]) (M' := M) (P := True) 3 rfl trivial ?_
            refine WX.if_eq (off := 59) (tgt := 152) rfl rfl (fun _ => ?_) (fun c => absurd (by decide) c)
            refine WX.run (pc' := 158) (L' := [some (.ref 37), some (.ref 46), some (.int x2), some (.int x3), some (.int x4), some (.int 0)]) (st' := [.int 0, .int x3]) (M' := M) (P := True) 4 rfl trivial ?_
            refine WX.if_eq (off := 7) (tgt := 165) rfl rfl (fun _ => ?_) (fun c => absurd (by decide) c)
            refine WX.run (pc' := 5) (L' := [some (.ref 37), some (.ref 46), some (.int x2), some (.int (x3 + 0)), some (.int (x4 + 1)), some (.int 0)]) (st' := []) (M' := M) (P := True) 5 rfl trivial ?_
            refine WX.forget2 (L' := [some (.ref 37), some (.ref 46), some (.int x2), some (.int (x3 + 0)), some (.int (x4 + 1)), none]) ?_ ⟨Or.inr rfl, Or.inr rfl, Or.inr rfl, Or.inr rfl, Or.inr rfl, Or.inl rfl, trivial⟩
            exact (h14 c1 c2 c3 c4 c5)
          · refine WX.run (pc' := 78) (L' := [some (.ref 37), some (.ref 46), some (.int x2), some (.int x3), some (.int x4), none]) (st' := [.int ((x4 + 4) + 1), .int x4, .int x2, .ref 46]) (M' := M) (P := True) 8 rfl trivial ?_
            refine WX.callS (ca := mi_M_part) (n := 4) (d' := 1) (st := []) (As := [.ref 46, .int x2, .int x4, .int ((x4 + 4) + 1)]) rfl lk_7_165 ck_M_part cs_M_part rfl (by decide) rfl (Nat.le_of_ble_eq_true rfl) (by intro w hw; simp only [List.mem_cons, List.not_mem_nil, or_false] at hw; rcases hw with rfl | rfl | rfl | rfl <;> rfl) (Nat.le_of_ble_eq_true rfl) ?_
            refine wx_M_part_46 M x2 x4 ((x4 + 4) + 1) (b15 c1 c2 c3 c4 c5) (b16 c1 c2 c3 c4 c5) (b17 c1 c2 c3 c4 c5) (b18 c1 c2 c3 c4 c5) ?_
            show WX mi_M_crosses 4 Q 81 [some (.ref 37), some (.ref 46), some (.int x2), some (.int x3), some (.int x4), none] [.int (z_M_part_46 M x2 x4 ((x4 + 4) + 1))] M
            refine WX.if_eq (off := 7) (tgt := 88) rfl rfl (fun c6 => ?_) (fun c6 => ?_)
            · refine WX.run (pc' := 93) (L' := [some (.ref 37), some (.ref 46), some (.int x2), some (.int x3), some (.int x4), some (.int 0)]) (st' := [.int 0]) (M' := M) (P := True) 3 rfl trivial ?_
              refine WX.if_eq (off := 59) (tgt := 152) rfl rfl (fun _ => ?_) (fun c => absurd (by decide) c)
              refine WX.run (pc' := 158) (L' := [some (.ref 37), some (.ref 46), some (.int x2), some (.int x3), some (.int x4), some (.int 0)]) (st' := [.int 0, .int x3]) (M' := M) (P := True) 4 rfl trivial ?_
              refine WX.if_eq (off := 7) (tgt := 165) rfl rfl (fun _ => ?_) (fun c => absurd (by decide) c)
              refine WX.run (pc' := 5) (L' := [some (.ref 37), some (.ref 46), some (.int x2), some (.int (x3 + 0)), some (.int (x4 + 1)), some (.int 0)]) (st' := []) (M' := M) (P := True) 5 rfl trivial ?_
              refine WX.forget2 (L' := [some (.ref 37), some (.ref 46), some (.int x2), some (.int (x3 + 0)), some (.int (x4 + 1)), none]) ?_ ⟨Or.inr rfl, Or.inr rfl, Or.inr rfl, Or.inr rfl, Or.inr rfl, Or.inl rfl, trivial⟩
              exact (h19 c1 c2 c3 c4 c5 c6)
            · refine WX.run (pc' := 93) (L' := [some (.ref 37), some (.ref 46), some (.int x2), some (.int x3), some (.int x4), some (.int 1)]) (st' := [.int 1]) (M' := M) (P := True) 4 rfl trivial ?_
              refine WX.if_eq (off := 59) (tgt := 152) rfl rfl (fun c => absurd c (by decide)) (fun _ => ?_)
              refine WX.run (pc' := 106) (L' := [some (.ref 37), some (.ref 46), some (.int x2), some (.int x3), some (.int x4), some (.int 1)]) (st' := [.int (x4 + 4), .int (x4 + 1), .int x2, .ref 46]) (M' := M) (P := True) 8 rfl trivial ?_
              refine WX.callS (ca := mi_M_part) (n := 4) (d' := 1) (st := []) (As := [.ref 46, .int x2, .int (x4 + 1), .int (x4 + 4)]) rfl lk_7_165 ck_M_part cs_M_part rfl (by decide) rfl (Nat.le_of_ble_eq_true rfl) (by intro w hw; simp only [List.mem_cons, List.not_mem_nil, or_false] at hw; rcases hw with rfl | rfl | rfl | rfl <;> rfl) (Nat.le_of_ble_eq_true rfl) ?_
              refine wx_M_part_46 M x2 (x4 + 1) (x4 + 4) (b20 c1 c2 c3 c4 c5 c6) (b21 c1 c2 c3 c4 c5 c6) (b22 c1 c2 c3 c4 c5 c6) (b23 c1 c2 c3 c4 c5 c6) ?_
              show WX mi_M_crosses 4 Q 109 [some (.ref 37), some (.ref 46), some (.int x2), some (.int x3), some (.int x4), some (.int 1)] [.int (z_M_part_46 M x2 (x4 + 1) (x4 + 4))] M
              refine WX.if_eq (off := 43) (tgt := 152) rfl rfl (fun c7 => ?_) (fun c7 => ?_)
              · refine WX.run (pc' := 158) (L' := [some (.ref 37), some (.ref 46), some (.int x2), some (.int x3), some (.int x4), some (.int 0)]) (st' := [.int 0, .int x3]) (M' := M) (P := True) 4 rfl trivial ?_
                refine WX.if_eq (off := 7) (tgt := 165) rfl rfl (fun _ => ?_) (fun c => absurd (by decide) c)
                refine WX.run (pc' := 5) (L' := [some (.ref 37), some (.ref 46), some (.int x2), some (.int (x3 + 0)), some (.int (x4 + 1)), some (.int 0)]) (st' := []) (M' := M) (P := True) 5 rfl trivial ?_
                refine WX.forget2 (L' := [some (.ref 37), some (.ref 46), some (.int x2), some (.int (x3 + 0)), some (.int (x4 + 1)), none]) ?_ ⟨Or.inr rfl, Or.inr rfl, Or.inr rfl, Or.inr rfl, Or.inr rfl, Or.inl rfl, trivial⟩
                exact (h24 c1 c2 c3 c4 c5 c6 c7)
              · refine WX.run (pc' := 124) (L' := [some (.ref 37), some (.ref 46), some (.int x2), some (.int x3), some (.int x4), some (.int 1)]) (st' := [.int ((x4 + 4) + 1), .int (x4 + 1), .int x2, .ref 46]) (M' := M) (P := True) 10 rfl trivial ?_
                refine WX.callS (ca := mi_M_part) (n := 4) (d' := 1) (st := []) (As := [.ref 46, .int x2, .int (x4 + 1), .int ((x4 + 4) + 1)]) rfl lk_7_165 ck_M_part cs_M_part rfl (by decide) rfl (Nat.le_of_ble_eq_true rfl) (by intro w hw; simp only [List.mem_cons, List.not_mem_nil, or_false] at hw; rcases hw with rfl | rfl | rfl | rfl <;> rfl) (Nat.le_of_ble_eq_true rfl) ?_
                refine wx_M_part_46 M x2 (x4 + 1) ((x4 + 4) + 1) (b25 c1 c2 c3 c4 c5 c6 c7) (b26 c1 c2 c3 c4 c5 c6 c7) (b27 c1 c2 c3 c4 c5 c6 c7) (b28 c1 c2 c3 c4 c5 c6 c7) ?_
                show WX mi_M_crosses 4 Q 127 [some (.ref 37), some (.ref 46), some (.int x2), some (.int x3), some (.int x4), some (.int 1)] [.int (z_M_part_46 M x2 (x4 + 1) ((x4 + 4) + 1))] M
                refine WX.if_eq (off := 25) (tgt := 152) rfl rfl (fun c8 => ?_) (fun c8 => ?_)
                · refine WX.run (pc' := 158) (L' := [some (.ref 37), some (.ref 46), some (.int x2), some (.int x3), some (.int x4), some (.int 0)]) (st' := [.int 0, .int x3]) (M' := M) (P := True) 4 rfl trivial ?_
                  refine WX.if_eq (off := 7) (tgt := 165) rfl rfl (fun _ => ?_) (fun c => absurd (by decide) c)
                  refine WX.run (pc' := 5) (L' := [some (.ref 37), some (.ref 46), some (.int x2), some (.int (x3 + 0)), some (.int (x4 + 1)), some (.int 0)]) (st' := []) (M' := M) (P := True) 5 rfl trivial ?_
                  refine WX.forget2 (L' := [some (.ref 37), some (.ref 46), some (.int x2), some (.int (x3 + 0)), some (.int (x4 + 1)), none]) ?_ ⟨Or.inr rfl, Or.inr rfl, Or.inr rfl, Or.inr rfl, Or.inr rfl, Or.inl rfl, trivial⟩
                  exact (h29 c1 c2 c3 c4 c5 c6 c7 c8)
                · refine WX.run (pc' := 142) (L' := [some (.ref 37), some (.ref 46), some (.int x2), some (.int x3), some (.int x4), some (.int 1)]) (st' := [.int ((x4 + 4) + 1), .int (x4 + 4), .int x2, .ref 46]) (M' := M) (P := True) 10 rfl trivial ?_
                  refine WX.callS (ca := mi_M_part) (n := 4) (d' := 1) (st := []) (As := [.ref 46, .int x2, .int (x4 + 4), .int ((x4 + 4) + 1)]) rfl lk_7_165 ck_M_part cs_M_part rfl (by decide) rfl (Nat.le_of_ble_eq_true rfl) (by intro w hw; simp only [List.mem_cons, List.not_mem_nil, or_false] at hw; rcases hw with rfl | rfl | rfl | rfl <;> rfl) (Nat.le_of_ble_eq_true rfl) ?_
                  refine wx_M_part_46 M x2 (x4 + 4) ((x4 + 4) + 1) (b30 c1 c2 c3 c4 c5 c6 c7 c8) (b31 c1 c2 c3 c4 c5 c6 c7 c8) (b32 c1 c2 c3 c4 c5 c6 c7 c8) (b33 c1 c2 c3 c4 c5 c6 c7 c8) ?_
                  show WX mi_M_crosses 4 Q 145 [some (.ref 37), some (.ref 46), some (.int x2), some (.int x3), some (.int x4), some (.int 1)] [.int (z_M_part_46 M x2 (x4 + 4) ((x4 + 4) + 1))] M
                  refine WX.if_eq (off := 7) (tgt := 152) rfl rfl (fun c9 => ?_) (fun c9 => ?_)
                  · refine WX.run (pc' := 158) (L' := [some (.ref 37), some (.ref 46), some (.int x2), some (.int x3), some (.int x4), some (.int 0)]) (st' := [.int 0, .int x3]) (M' := M) (P := True) 4 rfl trivial ?_
                    refine WX.if_eq (off := 7) (tgt := 165) rfl rfl (fun _ => ?_) (fun c => absurd (by decide) c)
                    refine WX.run (pc' := 5) (L' := [some (.ref 37), some (.ref 46), some (.int x2), some (.int (x3 + 0)), some (.int (x4 + 1)), some (.int 0)]) (st' := []) (M' := M) (P := True) 5 rfl trivial ?_
                    refine WX.forget2 (L' := [some (.ref 37), some (.ref 46), some (.int x2), some (.int (x3 + 0)), some (.int (x4 + 1)), none]) ?_ ⟨Or.inr rfl, Or.inr rfl, Or.inr rfl, Or.inr rfl, Or.inr rfl, Or.inl rfl, trivial⟩
                    exact (h34 c1 c2 c3 c4 c5 c6 c7 c8 c9)
                  · refine WX.run (pc' := 158) (L' := [some (.ref 37), some (.ref 46), some (.int x2), some (.int x3), some (.int x4), some (.int 1)]) (st' := [.int 1, .int x3]) (M' := M) (P := True) 5 rfl trivial ?_
                    refine WX.if_eq (off := 7) (tgt := 165) rfl rfl (fun c => absurd c (by decide)) (fun _ => ?_)
                    refine WX.run (pc' := 5) (L' := [some (.ref 37), some (.ref 46), some (.int x2), some (.int (x3 + 1)), some (.int (x4 + 1)), some (.int 1)]) (st' := []) (M' := M) (P := True) 6 rfl trivial ?_
                    refine WX.forget2 (L' := [some (.ref 37), some (.ref 46), some (.int x2), some (.int (x3 + 1)), some (.int (x4 + 1)), none]) ?_ ⟨Or.inr rfl, Or.inr rfl, Or.inr rfl, Or.inr rfl, Or.inr rfl, Or.inl rfl, trivial⟩
                    exact (h35 c1 c2 c3 c4 c5 c6 c7 c8 c9)
theorem sg_M_part_49_0 {Q : Option Value → Mem → Prop} (M : Mem) (x1 x2 x3 : Int32)
    (b1 : vp_in (x1 + x2) 16)
    (h2 : (M.1 49 (x1 + x2).toNatClampNeg) = (-9) → Q (some (.int 0)) M)
    (b3 : ¬ (M.1 49 (x1 + x2).toNatClampNeg) = (-9) → vp_in (x1 + x3) 16)
    (h4 : ¬ (M.1 49 (x1 + x2).toNatClampNeg) = (-9) → (M.1 49 (x1 + x3).toNatClampNeg) = (-9) → Q (some (.int 0)) M)
    (b5 : ¬ (M.1 49 (x1 + x2).toNatClampNeg) = (-9) → ¬ (M.1 49 (x1 + x3).toNatClampNeg) = (-9) → vp_in (x1 + x2) 16)
    (b6 : ¬ (M.1 49 (x1 + x2).toNatClampNeg) = (-9) → ¬ (M.1 49 (x1 + x3).toNatClampNeg) = (-9) → vp_in (x1 + x3) 16)
    (h7 : ¬ (M.1 49 (x1 + x2).toNatClampNeg) = (-9) → ¬ (M.1 49 (x1 + x3).toNatClampNeg) = (-9) → (M.1 49 (x1 + x2).toNatClampNeg) = (M.1 49 (x1 + x3).toNatClampNeg) → Q (some (.int 0)) M)
    (h8 : ¬ (M.1 49 (x1 + x2).toNatClampNeg) = (-9) → ¬ (M.1 49 (x1 + x3).toNatClampNeg) = (-9) → ¬ (M.1 49 (x1 + x2).toNatClampNeg) = (M.1 49 (x1 + x3).toNatClampNeg) → Q (some (.int 1)) M) :
    WX mi_M_part 1 Q 0 [some (.ref 49), some (.int x1), some (.int x2), some (.int x3)] [] M := by
  refine WX.run (pc' := 7) (L' := [some (.ref 49), some (.int x1), some (.int x2), some (.int x3)]) (st' := [.int (-9), .int (M.1 49 (x1 + x2).toNatClampNeg)]) (M' := M) (P := (True ∧ vp_in (x1 + x2) 16)) 6 rfl ⟨trivial, b1⟩ ?_
  refine WX.icmp_eq (off := 30) (tgt := 37) rfl rfl (fun c1 => ?_) (fun c1 => ?_)
  · refine WX.run (pc' := 38) (L' := [some (.ref 49), some (.int x1), some (.int x2), some (.int x3)]) (st' := [.int 0]) (M' := M) (P := True) 1 rfl trivial ?_
    exact WX.zret rfl rfl (Or.inl rfl) (h2 c1)
  · refine WX.run (pc' := 17) (L' := [some (.ref 49), some (.int x1), some (.int x2), some (.int x3)]) (st' := [.int (-9), .int (M.1 49 (x1 + x3).toNatClampNeg)]) (M' := M) (P := (True ∧ vp_in (x1 + x3) 16)) 6 rfl ⟨trivial, (b3 c1)⟩ ?_
    refine WX.icmp_eq (off := 20) (tgt := 37) rfl rfl (fun c2 => ?_) (fun c2 => ?_)
    · refine WX.run (pc' := 38) (L' := [some (.ref 49), some (.int x1), some (.int x2), some (.int x3)]) (st' := [.int 0]) (M' := M) (P := True) 1 rfl trivial ?_
      exact WX.zret rfl rfl (Or.inl rfl) (h4 c1 c2)
    · refine WX.run (pc' := 30) (L' := [some (.ref 49), some (.int x1), some (.int x2), some (.int x3)]) (st' := [.int (M.1 49 (x1 + x3).toNatClampNeg), .int (M.1 49 (x1 + x2).toNatClampNeg)]) (M' := M) (P := ((True ∧ vp_in (x1 + x2) 16) ∧ vp_in (x1 + x3) 16)) 10 rfl ⟨⟨trivial, (b5 c1 c2)⟩, (b6 c1 c2)⟩ ?_
      refine WX.icmp_eq (off := 7) (tgt := 37) rfl rfl (fun c3 => ?_) (fun c3 => ?_)
      · refine WX.run (pc' := 38) (L' := [some (.ref 49), some (.int x1), some (.int x2), some (.int x3)]) (st' := [.int 0]) (M' := M) (P := True) 1 rfl trivial ?_
        exact WX.zret rfl rfl (Or.inl rfl) (h7 c1 c2 c3)
      · refine WX.run (pc' := 38) (L' := [some (.ref 49), some (.int x1), some (.int x2), some (.int x3)]) (st' := [.int 1]) (M' := M) (P := True) 2 rfl trivial ?_
        exact WX.zret rfl rfl (Or.inr rfl) (h8 c1 c2 c3)
def z_M_part_49 (M : Mem) (x1 x2 x3 : Int32) : Int32 := (if (M.1 49 (x1 + x2).toNatClampNeg) = (-9) then 0 else (if (M.1 49 (x1 + x3).toNatClampNeg) = (-9) then 0 else (if (M.1 49 (x1 + x2).toNatClampNeg) = (M.1 49 (x1 + x3).toNatClampNeg) then 0 else 1)))
theorem wx_M_part_49 {Q : Option Value → Mem → Prop} (M : Mem) (x1 x2 x3 : Int32)
    (b1 : vp_in (x1 + x2) 16)
    (b3 : ¬ (M.1 49 (x1 + x2).toNatClampNeg) = (-9) → vp_in (x1 + x3) 16)
    (b5 : ¬ (M.1 49 (x1 + x2).toNatClampNeg) = (-9) → ¬ (M.1 49 (x1 + x3).toNatClampNeg) = (-9) → vp_in (x1 + x2) 16)
    (b6 : ¬ (M.1 49 (x1 + x2).toNatClampNeg) = (-9) → ¬ (M.1 49 (x1 + x3).toNatClampNeg) = (-9) → vp_in (x1 + x3) 16)
    (h : Q (some (.int (z_M_part_49 M x1 x2 x3))) M) :
    WX mi_M_part 1 Q 0 [some (.ref 49), some (.int x1), some (.int x2), some (.int x3)] [] M := by
  refine sg_M_part_49_0 M x1 x2 x3
    b1
    (fun c1 => by
      unfold z_M_part_49 at h
      rw [if_pos c1] at h
      exact h)
    b3
    (fun c1 c2 => by
      unfold z_M_part_49 at h
      rw [if_neg c1, if_pos c2] at h
      exact h)
    b5
    b6
    (fun c1 c2 c3 => by
      unfold z_M_part_49 at h
      rw [if_neg c1, if_neg c2, if_pos c3] at h
      exact h)
    (fun c1 c2 c3 => by
      unfold z_M_part_49 at h
      rw [if_neg c1, if_neg c2, if_neg c3] at h
      exact h)
theorem sg_M_put_49_0 {Q : Option Value → Mem → Prop} (M : Mem) (x1 x2 x3 : Int32)
    (h1 : WX mi_M_put 1 Q 3 [some (.ref 49), some (.int x1), some (.int x2), some (.int x3), some (.int 0)] [] M) :
    WX mi_M_put 1 Q 0 [some (.ref 49), some (.int x1), some (.int x2), some (.int x3), none] [] M := by
  refine WX.run (pc' := 3) (L' := [some (.ref 49), some (.int x1), some (.int x2), some (.int x3), some (.int 0)]) (st' := []) (M' := M) (P := True) 2 rfl trivial ?_
  exact h1
theorem sg_M_put_49_3 {Q : Option Value → Mem → Prop} (M : Mem) (x1 x2 x3 x4 : Int32)
    (h1 : 16 ≤ x4 → Q none M)
    (b2 : ¬ 16 ≤ x4 → ¬ ((shr x2 x4) &&& 1) = 1 → vp_in (x1 + x4) 16)
    (h3 : ¬ 16 ≤ x4 → ¬ ((shr x2 x4) &&& 1) = 1 → WX mi_M_put 1 Q 3 [some (.ref 49), some (.int x1), some (.int x2), some (.int x3), some (.int (x4 + 1))] [] (wr M 49 (x1 + x4).toNatClampNeg (M.1 49 (x1 + x4).toNatClampNeg)))
    (b4 : ¬ 16 ≤ x4 → ((shr x2 x4) &&& 1) = 1 → vp_in (x1 + x4) 16)
    (h5 : ¬ 16 ≤ x4 → ((shr x2 x4) &&& 1) = 1 → WX mi_M_put 1 Q 3 [some (.ref 49), some (.int x1), some (.int x2), some (.int x3), some (.int (x4 + 1))] [] (wr M 49 (x1 + x4).toNatClampNeg x3)) :
    WX mi_M_put 1 Q 3 [some (.ref 49), some (.int x1), some (.int x2), some (.int x3), some (.int x4)] [] M := by
  refine WX.run (pc' := 7) (L' := [some (.ref 49), some (.int x1), some (.int x2), some (.int x3), some (.int x4)]) (st' := [.int 16, .int x4]) (M' := M) (P := True) 2 rfl trivial ?_
  refine WX.icmp_ge (off := 35) (tgt := 42) rfl rfl (fun c1 => ?_) (fun c1 => ?_)
  · exact WX.vret rfl rfl (h1 c1)
  · refine WX.run (pc' := 22) (L' := [some (.ref 49), some (.int x1), some (.int x2), some (.int x3), some (.int x4)]) (st' := [.int 1, .int ((shr x2 x4) &&& 1), .int (x1 + x4), .ref 49]) (M' := M) (P := True) 10 rfl trivial ?_
    refine WX.icmp_ne (off := 7) (tgt := 29) rfl rfl (fun c2 => ?_) (fun c2 => ?_)
    · refine WX.run (pc' := 3) (L' := [some (.ref 49), some (.int x1), some (.int x2), some (.int x3), some (.int (x4 + 1))]) (st' := []) (M' := (wr M 49 (x1 + x4).toNatClampNeg (M.1 49 (x1 + x4).toNatClampNeg))) (P := ((True ∧ vp_in (x1 + x4) 16) ∧ vp_in (x1 + x4) 16)) 8 rfl ⟨⟨trivial, (b2 c1 c2)⟩, (b2 c1 c2)⟩ ?_
      exact (h3 c1 c2)
    · refine WX.run (pc' := 3) (L' := [some (.ref 49), some (.int x1), some (.int x2), some (.int x3), some (.int (x4 + 1))]) (st' := []) (M' := (wr M 49 (x1 + x4).toNatClampNeg x3)) (P := (True ∧ vp_in (x1 + x4) 16)) 5 rfl ⟨trivial, (b4 c1 c2)⟩ ?_
      exact (h5 c1 c2)
theorem sg_M_freeBy_37_49_0 {Q : Option Value → Mem → Prop} (M : Mem) (x2 : Int32)
    (h1 : WX mi_M_freeBy 4 Q 5 [some (.ref 37), some (.ref 49), some (.int x2), some (.int 0), some (.int 0)] [] M) :
    WX mi_M_freeBy 4 Q 0 [some (.ref 37), some (.ref 49), some (.int x2), none, none] [] M := by
  refine WX.run (pc' := 5) (L' := [some (.ref 37), some (.ref 49), some (.int x2), some (.int 0), some (.int 0)]) (st' := []) (M' := M) (P := True) 4 rfl trivial ?_
  exact h1
theorem sg_M_freeBy_37_49_5 {Q : Option Value → Mem → Prop} (M : Mem) (x2 x3 x4 : Int32)
    (h1 : 16 ≤ x4 → Q (some (.int x3)) M)
    (b2 : ¬ 16 ≤ x4 → ((z_M_isCell_37 M (rem x4 4) (x4 / 4)) = 0 ∨ (z_M_isCell_37 M (rem x4 4) (x4 / 4)) = 1))
    (h3 : ¬ 16 ≤ x4 → (z_M_isThere_37 M x4) = 0 → WX mi_M_freeBy 4 Q 5 [some (.ref 37), some (.ref 49), some (.int x2), some (.int (x3 ||| 0)), some (.int (x4 + 1))] [] M)
    (h4 : ¬ 16 ≤ x4 → ¬ (z_M_isThere_37 M x4) = 0 → ¬ (z_M_isLid_37 M x4) = 0 → WX mi_M_freeBy 4 Q 5 [some (.ref 37), some (.ref 49), some (.int x2), some (.int (x3 ||| 0)), some (.int (x4 + 1))] [] M)
    (h5 : ¬ 16 ≤ x4 → ¬ (z_M_isThere_37 M x4) = 0 → (z_M_isLid_37 M x4) = 0 → ¬ (z_M_isDrain_37 M x4) = 0 → WX mi_M_freeBy 4 Q 5 [some (.ref 37), some (.ref 49), some (.int x2), some (.int (x3 ||| 0)), some (.int (x4 + 1))] [] M)
    (b6 : ¬ 16 ≤ x4 → ¬ (z_M_isThere_37 M x4) = 0 → (z_M_isLid_37 M x4) = 0 → (z_M_isDrain_37 M x4) = 0 → vp_in (x2 + x4) 16)
    (h7 : ¬ 16 ≤ x4 → ¬ (z_M_isThere_37 M x4) = 0 → (z_M_isLid_37 M x4) = 0 → (z_M_isDrain_37 M x4) = 0 → ¬ (M.1 49 (x2 + x4).toNatClampNeg) = (-9) → WX mi_M_freeBy 4 Q 5 [some (.ref 37), some (.ref 49), some (.int x2), some (.int (x3 ||| 0)), some (.int (x4 + 1))] [] M)
    (h8 : ¬ 16 ≤ x4 → ¬ (z_M_isThere_37 M x4) = 0 → (z_M_isLid_37 M x4) = 0 → (z_M_isDrain_37 M x4) = 0 → (M.1 49 (x2 + x4).toNatClampNeg) = (-9) → WX mi_M_freeBy 4 Q 5 [some (.ref 37), some (.ref 49), some (.int x2), some (.int (x3 ||| (shl 1 x4))), some (.int (x4 + 1))] [] M) :
    WX mi_M_freeBy 4 Q 5 [some (.ref 37), some (.ref 49), some (.int x2), some (.int x3), some (.int x4)] [] M := by
  refine WX.run (pc' := 9) (L' := [some (.ref 37), some (.ref 49), some (.int x2), some (.int x3), some (.int x4)]) (st' := [.int 16, .int x4]) (M' := M) (P := True) 2 rfl trivial ?_
  refine WX.icmp_ge (off := 58) (tgt := 67) rfl rfl (fun c1 => ?_) (fun c1 => ?_)
  · refine WX.run (pc' := 68) (L' := [some (.ref 37), some (.ref 49), some (.int x2), some (.int x3), some (.int x4)]) (st' := [.int x3]) (M' := M) (P := True) 1 rfl trivial ?_
    exact WX.iret rfl rfl (h1 c1)
  · refine WX.run (pc' := 16) (L' := [some (.ref 37), some (.ref 49), some (.int x2), some (.int x3), some (.int x4)]) (st' := [.int x4, .ref 37, .int x3]) (M' := M) (P := True) 3 rfl trivial ?_
    refine WX.callV (ca := mi_M_isThere) (n := 1) (d' := 3) (st := [.int x3]) (As := [.int x4]) (q := 37) rfl lk_7_148 ck_M_isThere cv_M_isThere rfl (by decide) rfl (Nat.le_of_ble_eq_true rfl) ⟨by decide, rfl, by decide⟩ (by intro w hw; simp only [List.mem_cons, List.not_mem_nil, or_false] at hw; rcases hw with rfl <;> rfl) (Nat.le_of_ble_eq_true rfl) ?_
    refine wx_M_isThere_37 M x4 (b2 c1) ?_
    show WX mi_M_freeBy 4 Q 19 [some (.ref 37), some (.ref 49), some (.int x2), some (.int x3), some (.int x4)] [.int (z_M_isThere_37 M x4), .int x3] M
    refine WX.if_eq (off := 39) (tgt := 58) rfl rfl (fun c2 => ?_) (fun c2 => ?_)
    · refine WX.run (pc' := 5) (L' := [some (.ref 37), some (.ref 49), some (.int x2), some (.int (x3 ||| 0)), some (.int (x4 + 1))]) (st' := []) (M' := M) (P := True) 5 rfl trivial ?_
      exact (h3 c1 c2)
    · refine WX.run (pc' := 25) (L' := [some (.ref 37), some (.ref 49), some (.int x2), some (.int x3), some (.int x4)]) (st' := [.int x4, .ref 37, .int x3]) (M' := M) (P := True) 2 rfl trivial ?_
      refine WX.callV (ca := mi_M_isLid) (n := 1) (d' := 1) (st := [.int x3]) (As := [.int x4]) (q := 37) rfl lk_7_134 ck_M_isLid cv_M_isLid rfl (by decide) rfl (Nat.le_of_ble_eq_true rfl) ⟨by decide, rfl, by decide⟩ (by intro w hw; simp only [List.mem_cons, List.not_mem_nil, or_false] at hw; rcases hw with rfl <;> rfl) (Nat.le_of_ble_eq_true rfl) ?_
      refine wx_M_isLid_37 M x4 ?_
      show WX mi_M_freeBy 4 Q 28 [some (.ref 37), some (.ref 49), some (.int x2), some (.int x3), some (.int x4)] [.int (z_M_isLid_37 M x4), .int x3] M
      refine WX.if_ne (off := 30) (tgt := 58) rfl rfl (fun c3 => ?_) (fun c3 => ?_)
      · refine WX.run (pc' := 5) (L' := [some (.ref 37), some (.ref 49), some (.int x2), some (.int (x3 ||| 0)), some (.int (x4 + 1))]) (st' := []) (M' := M) (P := True) 5 rfl trivial ?_
        exact (h4 c1 c2 c3)
      · refine WX.run (pc' := 34) (L' := [some (.ref 37), some (.ref 49), some (.int x2), some (.int x3), some (.int x4)]) (st' := [.int x4, .ref 37, .int x3]) (M' := M) (P := True) 2 rfl trivial ?_
        refine WX.callV (ca := mi_M_isDrain) (n := 1) (d' := 1) (st := [.int x3]) (As := [.int x4]) (q := 37) rfl lk_7_138 ck_M_isDrain cv_M_isDrain rfl (by decide) rfl (Nat.le_of_ble_eq_true rfl) ⟨by decide, rfl, by decide⟩ (by intro w hw; simp only [List.mem_cons, List.not_mem_nil, or_false] at hw; rcases hw with rfl <;> rfl) (Nat.le_of_ble_eq_true rfl) ?_
        refine wx_M_isDrain_37 M x4 ?_
        show WX mi_M_freeBy 4 Q 37 [some (.ref 37), some (.ref 49), some (.int x2), some (.int x3), some (.int x4)] [.int (z_M_isDrain_37 M x4), .int x3] M
        refine WX.if_ne (off := 21) (tgt := 58) rfl rfl (fun c4 => ?_) (fun c4 => ?_)
        · refine WX.run (pc' := 5) (L' := [some (.ref 37), some (.ref 49), some (.int x2), some (.int (x3 ||| 0)), some (.int (x4 + 1))]) (st' := []) (M' := M) (P := True) 5 rfl trivial ?_
          exact (h5 c1 c2 c3 c4)
        · refine WX.run (pc' := 48) (L' := [some (.ref 37), some (.ref 49), some (.int x2), some (.int x3), some (.int x4)]) (st' := [.int (-9), .int (M.1 49 (x2 + x4).toNatClampNeg), .int x3]) (M' := M) (P := (True ∧ vp_in (x2 + x4) 16)) 6 rfl ⟨trivial, (b6 c1 c2 c3 c4)⟩ ?_
          refine WX.icmp_ne (off := 10) (tgt := 58) rfl rfl (fun c5 => ?_) (fun c5 => ?_)
          · refine WX.run (pc' := 5) (L' := [some (.ref 37), some (.ref 49), some (.int x2), some (.int (x3 ||| 0)), some (.int (x4 + 1))]) (st' := []) (M' := M) (P := True) 5 rfl trivial ?_
            exact (h7 c1 c2 c3 c4 c5)
          · refine WX.run (pc' := 5) (L' := [some (.ref 37), some (.ref 49), some (.int x2), some (.int (x3 ||| (shl 1 x4))), some (.int (x4 + 1))]) (st' := []) (M' := M) (P := True) 8 rfl trivial ?_
            exact (h8 c1 c2 c3 c4 c5)
theorem sg_M_crosses_37_49_0 {Q : Option Value → Mem → Prop} (M : Mem) (x2 : Int32)
    (h1 : WX mi_M_crosses 4 Q 5 [some (.ref 37), some (.ref 49), some (.int x2), some (.int 0), some (.int 0), none] [] M) :
    WX mi_M_crosses 4 Q 0 [some (.ref 37), some (.ref 49), some (.int x2), none, none, none] [] M := by
  refine WX.run (pc' := 5) (L' := [some (.ref 37), some (.ref 49), some (.int x2), some (.int 0), some (.int 0), none]) (st' := []) (M' := M) (P := True) 4 rfl trivial ?_
  exact h1
theorem sg_M_crosses_37_49_5 {Q : Option Value → Mem → Prop} (M : Mem) (x2 x3 x4 : Int32)
    (h1 : 16 ≤ x4 → Q (some (.int x3)) M)
    (b2 : ¬ 16 ≤ x4 → ((z_M_isCell_37 M (rem x4 4) (x4 / 4)) = 0 ∨ (z_M_isCell_37 M (rem x4 4) (x4 / 4)) = 1))
    (h3 : ¬ 16 ≤ x4 → (z_M_isThere_37 M x4) = 0 → WX mi_M_crosses 4 Q 5 [some (.ref 37), some (.ref 49), some (.int x2), some (.int x3), some (.int (x4 + 1)), none] [] M)
    (h4 : ¬ 16 ≤ x4 → ¬ (z_M_isThere_37 M x4) = 0 → (z_M_isCell_37 M ((rem x4 4) + 1) ((x4 / 4) + 1)) = 0 → WX mi_M_crosses 4 Q 5 [some (.ref 37), some (.ref 49), some (.int x2), some (.int x3), some (.int (x4 + 1)), none] [] M)
    (b5 : ¬ 16 ≤ x4 → ¬ (z_M_isThere_37 M x4) = 0 → ¬ (z_M_isCell_37 M ((rem x4 4) + 1) ((x4 / 4) + 1)) = 0 → vp_in (x2 + x4) 16)
    (b6 : ¬ 16 ≤ x4 → ¬ (z_M_isThere_37 M x4) = 0 → ¬ (z_M_isCell_37 M ((rem x4 4) + 1) ((x4 / 4) + 1)) = 0 → ¬ (M.1 49 (x2 + x4).toNatClampNeg) = (-9) → vp_in (x2 + (x4 + 1)) 16)
    (b7 : ¬ 16 ≤ x4 → ¬ (z_M_isThere_37 M x4) = 0 → ¬ (z_M_isCell_37 M ((rem x4 4) + 1) ((x4 / 4) + 1)) = 0 → ¬ (M.1 49 (x2 + x4).toNatClampNeg) = (-9) → ¬ (M.1 49 (x2 + (x4 + 1)).toNatClampNeg) = (-9) → vp_in (x2 + x4) 16)
    (b8 : ¬ 16 ≤ x4 → ¬ (z_M_isThere_37 M x4) = 0 → ¬ (z_M_isCell_37 M ((rem x4 4) + 1) ((x4 / 4) + 1)) = 0 → ¬ (M.1 49 (x2 + x4).toNatClampNeg) = (-9) → ¬ (M.1 49 (x2 + (x4 + 1)).toNatClampNeg) = (-9) → vp_in (x2 + (x4 + 1)) 16)
    (h9 : ¬ 16 ≤ x4 → ¬ (z_M_isThere_37 M x4) = 0 → ¬ (z_M_isCell_37 M ((rem x4 4) + 1) ((x4 / 4) + 1)) = 0 → (z_M_part_49 M x2 x4 (x4 + 1)) = 0 → WX mi_M_crosses 4 Q 5 [some (.ref 37), some (.ref 49), some (.int x2), some (.int (x3 + 0)), some (.int (x4 + 1)), none] [] M)
    (b10 : ¬ 16 ≤ x4 → ¬ (z_M_isThere_37 M x4) = 0 → ¬ (z_M_isCell_37 M ((rem x4 4) + 1) ((x4 / 4) + 1)) = 0 → ¬ (z_M_part_49 M x2 x4 (x4 + 1)) = 0 → vp_in (x2 + x4) 16)
    (b11 : ¬ 16 ≤ x4 → ¬ (z_M_isThere_37 M x4) = 0 → ¬ (z_M_isCell_37 M ((rem x4 4) + 1) ((x4 / 4) + 1)) = 0 → ¬ (z_M_part_49 M x2 x4 (x4 + 1)) = 0 → ¬ (M.1 49 (x2 + x4).toNatClampNeg) = (-9) → vp_in (x2 + (x4 + 4)) 16)
    (b12 : ¬ 16 ≤ x4 → ¬ (z_M_isThere_37 M x4) = 0 → ¬ (z_M_isCell_37 M ((rem x4 4) + 1) ((x4 / 4) + 1)) = 0 → ¬ (z_M_part_49 M x2 x4 (x4 + 1)) = 0 → ¬ (M.1 49 (x2 + x4).toNatClampNeg) = (-9) → ¬ (M.1 49 (x2 + (x4 + 4)).toNatClampNeg) = (-9) → vp_in (x2 + x4) 16)
    (b13 : ¬ 16 ≤ x4 → ¬ (z_M_isThere_37 M x4) = 0 → ¬ (z_M_isCell_37 M ((rem x4 4) + 1) ((x4 / 4) + 1)) = 0 → ¬ (z_M_part_49 M x2 x4 (x4 + 1)) = 0 → ¬ (M.1 49 (x2 + x4).toNatClampNeg) = (-9) → ¬ (M.1 49 (x2 + (x4 + 4)).toNatClampNeg) = (-9) → vp_in (x2 + (x4 + 4)) 16)
    (h14 : ¬ 16 ≤ x4 → ¬ (z_M_isThere_37 M x4) = 0 → ¬ (z_M_isCell_37 M ((rem x4 4) + 1) ((x4 / 4) + 1)) = 0 → ¬ (z_M_part_49 M x2 x4 (x4 + 1)) = 0 → (z_M_part_49 M x2 x4 (x4 + 4)) = 0 → WX mi_M_crosses 4 Q 5 [some (.ref 37), some (.ref 49), some (.int x2), some (.int (x3 + 0)), some (.int (x4 + 1)), none] [] M)
    (b15 : ¬ 16 ≤ x4 → ¬ (z_M_isThere_37 M x4) = 0 → ¬ (z_M_isCell_37 M ((rem x4 4) + 1) ((x4 / 4) + 1)) = 0 → ¬ (z_M_part_49 M x2 x4 (x4 + 1)) = 0 → ¬ (z_M_part_49 M x2 x4 (x4 + 4)) = 0 → vp_in (x2 + x4) 16)
    (b16 : ¬ 16 ≤ x4 → ¬ (z_M_isThere_37 M x4) = 0 → ¬ (z_M_isCell_37 M ((rem x4 4) + 1) ((x4 / 4) + 1)) = 0 → ¬ (z_M_part_49 M x2 x4 (x4 + 1)) = 0 → ¬ (z_M_part_49 M x2 x4 (x4 + 4)) = 0 → ¬ (M.1 49 (x2 + x4).toNatClampNeg) = (-9) → vp_in (x2 + ((x4 + 4) + 1)) 16)
    (b17 : ¬ 16 ≤ x4 → ¬ (z_M_isThere_37 M x4) = 0 → ¬ (z_M_isCell_37 M ((rem x4 4) + 1) ((x4 / 4) + 1)) = 0 → ¬ (z_M_part_49 M x2 x4 (x4 + 1)) = 0 → ¬ (z_M_part_49 M x2 x4 (x4 + 4)) = 0 → ¬ (M.1 49 (x2 + x4).toNatClampNeg) = (-9) → ¬ (M.1 49 (x2 + ((x4 + 4) + 1)).toNatClampNeg) = (-9) → vp_in (x2 + x4) 16)
    (b18 : ¬ 16 ≤ x4 → ¬ (z_M_isThere_37 M x4) = 0 → ¬ (z_M_isCell_37 M ((rem x4 4) + 1) ((x4 / 4) + 1)) = 0 → ¬ (z_M_part_49 M x2 x4 (x4 + 1)) = 0 → ¬ (z_M_part_49 M x2 x4 (x4 + 4)) = 0 → ¬ (M.1 49 (x2 + x4).toNatClampNeg) = (-9) → ¬ (M.1 49 (x2 + ((x4 + 4) + 1)).toNatClampNeg) = (-9) → vp_in (x2 + ((x4 + 4) + 1)) 16)
    (h19 : ¬ 16 ≤ x4 → ¬ (z_M_isThere_37 M x4) = 0 → ¬ (z_M_isCell_37 M ((rem x4 4) + 1) ((x4 / 4) + 1)) = 0 → ¬ (z_M_part_49 M x2 x4 (x4 + 1)) = 0 → ¬ (z_M_part_49 M x2 x4 (x4 + 4)) = 0 → (z_M_part_49 M x2 x4 ((x4 + 4) + 1)) = 0 → WX mi_M_crosses 4 Q 5 [some (.ref 37), some (.ref 49), some (.int x2), some (.int (x3 + 0)), some (.int (x4 + 1)), none] [] M)
    (b20 : ¬ 16 ≤ x4 → ¬ (z_M_isThere_37 M x4) = 0 → ¬ (z_M_isCell_37 M ((rem x4 4) + 1) ((x4 / 4) + 1)) = 0 → ¬ (z_M_part_49 M x2 x4 (x4 + 1)) = 0 → ¬ (z_M_part_49 M x2 x4 (x4 + 4)) = 0 → ¬ (z_M_part_49 M x2 x4 ((x4 + 4) + 1)) = 0 → vp_in (x2 + (x4 + 1)) 16)
    (b21 : ¬ 16 ≤ x4 → ¬ (z_M_isThere_37 M x4) = 0 → ¬ (z_M_isCell_37 M ((rem x4 4) + 1) ((x4 / 4) + 1)) = 0 → ¬ (z_M_part_49 M x2 x4 (x4 + 1)) = 0 → ¬ (z_M_part_49 M x2 x4 (x4 + 4)) = 0 → ¬ (z_M_part_49 M x2 x4 ((x4 + 4) + 1)) = 0 → ¬ (M.1 49 (x2 + (x4 + 1)).toNatClampNeg) = (-9) → vp_in (x2 + (x4 + 4)) 16)
    (b22 : ¬ 16 ≤ x4 → ¬ (z_M_isThere_37 M x4) = 0 → ¬ (z_M_isCell_37 M ((rem x4 4) + 1) ((x4 / 4) + 1)) = 0 → ¬ (z_M_part_49 M x2 x4 (x4 + 1)) = 0 → ¬ (z_M_part_49 M x2 x4 (x4 + 4)) = 0 → ¬ (z_M_part_49 M x2 x4 ((x4 + 4) + 1)) = 0 → ¬ (M.1 49 (x2 + (x4 + 1)).toNatClampNeg) = (-9) → ¬ (M.1 49 (x2 + (x4 + 4)).toNatClampNeg) = (-9) → vp_in (x2 + (x4 + 1)) 16)
    (b23 : ¬ 16 ≤ x4 → ¬ (z_M_isThere_37 M x4) = 0 → ¬ (z_M_isCell_37 M ((rem x4 4) + 1) ((x4 / 4) + 1)) = 0 → ¬ (z_M_part_49 M x2 x4 (x4 + 1)) = 0 → ¬ (z_M_part_49 M x2 x4 (x4 + 4)) = 0 → ¬ (z_M_part_49 M x2 x4 ((x4 + 4) + 1)) = 0 → ¬ (M.1 49 (x2 + (x4 + 1)).toNatClampNeg) = (-9) → ¬ (M.1 49 (x2 + (x4 + 4)).toNatClampNeg) = (-9) → vp_in (x2 + (x4 + 4)) 16)
    (h24 : ¬ 16 ≤ x4 → ¬ (z_M_isThere_37 M x4) = 0 → ¬ (z_M_isCell_37 M ((rem x4 4) + 1) ((x4 / 4) + 1)) = 0 → ¬ (z_M_part_49 M x2 x4 (x4 + 1)) = 0 → ¬ (z_M_part_49 M x2 x4 (x4 + 4)) = 0 → ¬ (z_M_part_49 M x2 x4 ((x4 + 4) + 1)) = 0 → (z_M_part_49 M x2 (x4 + 1) (x4 + 4)) = 0 → WX mi_M_crosses 4 Q 5 [some (.ref 37), some (.ref 49), some (.int x2), some (.int (x3 + 0)), some (.int (x4 + 1)), none] [] M)
    (b25 : ¬ 16 ≤ x4 → ¬ (z_M_isThere_37 M x4) = 0 → ¬ (z_M_isCell_37 M ((rem x4 4) + 1) ((x4 / 4) + 1)) = 0 → ¬ (z_M_part_49 M x2 x4 (x4 + 1)) = 0 → ¬ (z_M_part_49 M x2 x4 (x4 + 4)) = 0 → ¬ (z_M_part_49 M x2 x4 ((x4 + 4) + 1)) = 0 → ¬ (z_M_part_49 M x2 (x4 + 1) (x4 + 4)) = 0 → vp_in (x2 + (x4 + 1)) 16)
    (b26 : ¬ 16 ≤ x4 → ¬ (z_M_isThere_37 M x4) = 0 → ¬ (z_M_isCell_37 M ((rem x4 4) + 1) ((x4 / 4) + 1)) = 0 → ¬ (z_M_part_49 M x2 x4 (x4 + 1)) = 0 → ¬ (z_M_part_49 M x2 x4 (x4 + 4)) = 0 → ¬ (z_M_part_49 M x2 x4 ((x4 + 4) + 1)) = 0 → ¬ (z_M_part_49 M x2 (x4 + 1) (x4 + 4)) = 0 → ¬ (M.1 49 (x2 + (x4 + 1)).toNatClampNeg) = (-9) → vp_in (x2 + ((x4 + 4) + 1)) 16)
    (b27 : ¬ 16 ≤ x4 → ¬ (z_M_isThere_37 M x4) = 0 → ¬ (z_M_isCell_37 M ((rem x4 4) + 1) ((x4 / 4) + 1)) = 0 → ¬ (z_M_part_49 M x2 x4 (x4 + 1)) = 0 → ¬ (z_M_part_49 M x2 x4 (x4 + 4)) = 0 → ¬ (z_M_part_49 M x2 x4 ((x4 + 4) + 1)) = 0 → ¬ (z_M_part_49 M x2 (x4 + 1) (x4 + 4)) = 0 → ¬ (M.1 49 (x2 + (x4 + 1)).toNatClampNeg) = (-9) → ¬ (M.1 49 (x2 + ((x4 + 4) + 1)).toNatClampNeg) = (-9) → vp_in (x2 + (x4 + 1)) 16)
    (b28 : ¬ 16 ≤ x4 → ¬ (z_M_isThere_37 M x4) = 0 → ¬ (z_M_isCell_37 M ((rem x4 4) + 1) ((x4 / 4) + 1)) = 0 → ¬ (z_M_part_49 M x2 x4 (x4 + 1)) = 0 → ¬ (z_M_part_49 M x2 x4 (x4 + 4)) = 0 → ¬ (z_M_part_49 M x2 x4 ((x4 + 4) + 1)) = 0 → ¬ (z_M_part_49 M x2 (x4 + 1) (x4 + 4)) = 0 → ¬ (M.1 49 (x2 + (x4 + 1)).toNatClampNeg) = (-9) → ¬ (M.1 49 (x2 + ((x4 + 4) + 1)).toNatClampNeg) = (-9) → vp_in (x2 + ((x4 + 4) + 1)) 16)
    (h29 : ¬ 16 ≤ x4 → ¬ (z_M_isThere_37 M x4) = 0 → ¬ (z_M_isCell_37 M ((rem x4 4) + 1) ((x4 / 4) + 1)) = 0 → ¬ (z_M_part_49 M x2 x4 (x4 + 1)) = 0 → ¬ (z_M_part_49 M x2 x4 (x4 + 4)) = 0 → ¬ (z_M_part_49 M x2 x4 ((x4 + 4) + 1)) = 0 → ¬ (z_M_part_49 M x2 (x4 + 1) (x4 + 4)) = 0 → (z_M_part_49 M x2 (x4 + 1) ((x4 + 4) + 1)) = 0 → WX mi_M_crosses 4 Q 5 [some (.ref 37), some (.ref 49), some (.int x2), some (.int (x3 + 0)), some (.int (x4 + 1)), none] [] M)
    (b30 : ¬ 16 ≤ x4 → ¬ (z_M_isThere_37 M x4) = 0 → ¬ (z_M_isCell_37 M ((rem x4 4) + 1) ((x4 / 4) + 1)) = 0 → ¬ (z_M_part_49 M x2 x4 (x4 + 1)) = 0 → ¬ (z_M_part_49 M x2 x4 (x4 + 4)) = 0 → ¬ (z_M_part_49 M x2 x4 ((x4 + 4) + 1)) = 0 → ¬ (z_M_part_49 M x2 (x4 + 1) (x4 + 4)) = 0 → ¬ (z_M_part_49 M x2 (x4 + 1) ((x4 + 4) + 1)) = 0 → vp_in (x2 + (x4 + 4)) 16)
    (b31 : ¬ 16 ≤ x4 → ¬ (z_M_isThere_37 M x4) = 0 → ¬ (z_M_isCell_37 M ((rem x4 4) + 1) ((x4 / 4) + 1)) = 0 → ¬ (z_M_part_49 M x2 x4 (x4 + 1)) = 0 → ¬ (z_M_part_49 M x2 x4 (x4 + 4)) = 0 → ¬ (z_M_part_49 M x2 x4 ((x4 + 4) + 1)) = 0 → ¬ (z_M_part_49 M x2 (x4 + 1) (x4 + 4)) = 0 → ¬ (z_M_part_49 M x2 (x4 + 1) ((x4 + 4) + 1)) = 0 → ¬ (M.1 49 (x2 + (x4 + 4)).toNatClampNeg) = (-9) → vp_in (x2 + ((x4 + 4) + 1)) 16)
    (b32 : ¬ 16 ≤ x4 → ¬ (z_M_isThere_37 M x4) = 0 → ¬ (z_M_isCell_37 M ((rem x4 4) + 1) ((x4 / 4) + 1)) = 0 → ¬ (z_M_part_49 M x2 x4 (x4 + 1)) = 0 → ¬ (z_M_part_49 M x2 x4 (x4 + 4)) = 0 → ¬ (z_M_part_49 M x2 x4 ((x4 + 4) + 1)) = 0 → ¬ (z_M_part_49 M x2 (x4 + 1) (x4 + 4)) = 0 → ¬ (z_M_part_49 M x2 (x4 + 1) ((x4 + 4) + 1)) = 0 → ¬ (M.1 49 (x2 + (x4 + 4)).toNatClampNeg) = (-9) → ¬ (M.1 49 (x2 + ((x4 + 4) + 1)).toNatClampNeg) = (-9) → vp_in (x2 + (x4 + 4)) 16)
    (b33 : ¬ 16 ≤ x4 → ¬ (z_M_isThere_37 M x4) = 0 → ¬ (z_M_isCell_37 M ((rem x4 4) + 1) ((x4 / 4) + 1)) = 0 → ¬ (z_M_part_49 M x2 x4 (x4 + 1)) = 0 → ¬ (z_M_part_49 M x2 x4 (x4 + 4)) = 0 → ¬ (z_M_part_49 M x2 x4 ((x4 + 4) + 1)) = 0 → ¬ (z_M_part_49 M x2 (x4 + 1) (x4 + 4)) = 0 → ¬ (z_M_part_49 M x2 (x4 + 1) ((x4 + 4) + 1)) = 0 → ¬ (M.1 49 (x2 + (x4 + 4)).toNatClampNeg) = (-9) → ¬ (M.1 49 (x2 + ((x4 + 4) + 1)).toNatClampNeg) = (-9) → vp_in (x2 + ((x4 + 4) + 1)) 16)
    (h34 : ¬ 16 ≤ x4 → ¬ (z_M_isThere_37 M x4) = 0 → ¬ (z_M_isCell_37 M ((rem x4 4) + 1) ((x4 / 4) + 1)) = 0 → ¬ (z_M_part_49 M x2 x4 (x4 + 1)) = 0 → ¬ (z_M_part_49 M x2 x4 (x4 + 4)) = 0 → ¬ (z_M_part_49 M x2 x4 ((x4 + 4) + 1)) = 0 → ¬ (z_M_part_49 M x2 (x4 + 1) (x4 + 4)) = 0 → ¬ (z_M_part_49 M x2 (x4 + 1) ((x4 + 4) + 1)) = 0 → (z_M_part_49 M x2 (x4 + 4) ((x4 + 4) + 1)) = 0 → WX mi_M_crosses 4 Q 5 [some (.ref 37), some (.ref 49), some (.int x2), some (.int (x3 + 0)), some (.int (x4 + 1)), none] [] M)
    (h35 : ¬ 16 ≤ x4 → ¬ (z_M_isThere_37 M x4) = 0 → ¬ (z_M_isCell_37 M ((rem x4 4) + 1) ((x4 / 4) + 1)) = 0 → ¬ (z_M_part_49 M x2 x4 (x4 + 1)) = 0 → ¬ (z_M_part_49 M x2 x4 (x4 + 4)) = 0 → ¬ (z_M_part_49 M x2 x4 ((x4 + 4) + 1)) = 0 → ¬ (z_M_part_49 M x2 (x4 + 1) (x4 + 4)) = 0 → ¬ (z_M_part_49 M x2 (x4 + 1) ((x4 + 4) + 1)) = 0 → ¬ (z_M_part_49 M x2 (x4 + 4) ((x4 + 4) + 1)) = 0 → WX mi_M_crosses 4 Q 5 [some (.ref 37), some (.ref 49), some (.int x2), some (.int (x3 + 1)), some (.int (x4 + 1)), none] [] M) :
    WX mi_M_crosses 4 Q 5 [some (.ref 37), some (.ref 49), some (.int x2), some (.int x3), some (.int x4), none] [] M := by
  refine WX.run (pc' := 9) (L' := [some (.ref 37), some (.ref 49), some (.int x2), some (.int x3), some (.int x4), none]) (st' := [.int 16, .int x4]) (M' := M) (P := True) 2 rfl trivial ?_
  refine WX.icmp_ge (off := 165) (tgt := 174) rfl rfl (fun c1 => ?_) (fun c1 => ?_)
  · refine WX.run (pc' := 175) (L' := [some (.ref 37), some (.ref 49), some (.int x2), some (.int x3), some (.int x4), none]) (st' := [.int x3]) (M' := M) (P := True) 1 rfl trivial ?_
    exact WX.iret rfl rfl (h1 c1)
  · refine WX.run (pc' := 15) (L' := [some (.ref 37), some (.ref 49), some (.int x2), some (.int x3), some (.int x4), none]) (st' := [.int x4, .ref 37]) (M' := M) (P := True) 2 rfl trivial ?_
    refine WX.callV (ca := mi_M_isThere) (n := 1) (d' := 3) (st := []) (As := [.int x4]) (q := 37) rfl lk_7_148 ck_M_isThere cv_M_isThere rfl (by decide) rfl (Nat.le_of_ble_eq_true rfl) ⟨by decide, rfl, by decide⟩ (by intro w hw; simp only [List.mem_cons, List.not_mem_nil, or_false] at hw; rcases hw with rfl <;> rfl) (Nat.le_of_ble_eq_true rfl) ?_
    refine wx_M_isThere_37 M x4 (b2 c1) ?_
    show WX mi_M_crosses 4 Q 18 [some (.ref 37), some (.ref 49), some (.int x2), some (.int x3), some (.int x4), none] [.int (z_M_isThere_37 M x4)] M
    refine WX.if_eq (off := 150) (tgt := 168) rfl rfl (fun c2 => ?_) (fun c2 => ?_)
    · refine WX.run (pc' := 5) (L' := [some (.ref 37), some (.ref 49), some (.int x2), some (.int x3), some (.int (x4 + 1)), none]) (st' := []) (M' := M) (P := True) 2 rfl trivial ?_
      exact (h3 c1 c2)
    · refine WX.run (pc' := 34) (L' := [some (.ref 37), some (.ref 49), some (.int x2), some (.int x3), some (.int x4), none]) (st' := [.int ((x4 / 4) + 1), .int ((rem x4 4) + 1), .ref 37]) (M' := M) (P := ((True ∧ ¬ 4 = 0) ∧ ¬ 4 = 0)) 11 rfl ⟨⟨trivial, (by decide)⟩, (by decide)⟩ ?_
      refine WX.callV (ca := mi_M_isCell) (n := 2) (d' := 2) (st := []) (As := [.int ((rem x4 4) + 1), .int ((x4 / 4) + 1)]) (q := 37) rfl lk_7_131 ck_M_isCell cv_M_isCell rfl (by decide) rfl (Nat.le_of_ble_eq_true rfl) ⟨by decide, rfl, by decide⟩ (by intro w hw; simp only [List.mem_cons, List.not_mem_nil, or_false] at hw; rcases hw with rfl | rfl <;> rfl) (Nat.le_of_ble_eq_true rfl) ?_
      refine wx_M_isCell_37 M ((rem x4 4) + 1) ((x4 / 4) + 1) ?_
      show WX mi_M_crosses 4 Q 37 [some (.ref 37), some (.ref 49), some (.int x2), some (.int x3), some (.int x4), none] [.int (z_M_isCell_37 M ((rem x4 4) + 1) ((x4 / 4) + 1))] M
      refine WX.if_eq (off := 131) (tgt := 168) rfl rfl (fun c3 => ?_) (fun c3 => ?_)
      · refine WX.run (pc' := 5) (L' := [some (.ref 37), some (.ref 49), some (.int x2), some (.int x3), some (.int (x4 + 1)), none]) (st' := []) (M' := M) (P := True) 2 rfl trivial ?_
        exact (h4 c1 c2 c3)
      · refine WX.run (pc' := 48) (L' := [some (.ref 37), some (.ref 49), some (.int x2), some (.int x3), some (.int x4), none]) (st' := [.int (x4 + 1), .int x4, .int x2, .ref 49]) (M' := M) (P := True) 6 rfl trivial ?_
        refine WX.callS (ca := mi_M_part) (n := 4) (d' := 1) (st := []) (As := [.ref 49, .int x2, .int x4, .int (x4 + 1)]) rfl lk_7_165 ck_M_part cs_M_part rfl (by decide) rfl (Nat.le_of_ble_eq_true rfl) (by intro w hw; simp only [List.mem_cons, List.not_mem_nil, or_false] at hw; rcases hw with rfl | rfl | rfl | rfl <;> rfl) (Nat.le_of_ble_eq_true rfl) ?_
        refine wx_M_part_49 M x2 x4 (x4 + 1) (b5 c1 c2 c3) (b6 c1 c2 c3) (b7 c1 c2 c3) (b8 c1 c2 c3) ?_
        show WX mi_M_crosses 4 Q 51 [some (.ref 37), some (.ref 49), some (.int x2), some (.int x3), some (.int x4), none] [.int (z_M_part_49 M x2 x4 (x4 + 1))] M
        refine WX.if_eq (off := 37) (tgt := 88) rfl rfl (fun c4 => ?_) (fun c4 => ?_)
        · refine WX.run (pc' := 93) (L' := [some (.ref 37), some (.ref 49), some (.int x2), some (.int x3), some (.int x4), some (.int 0)]) (st' := [.int 0]) (M' := M) (P := True) 3 rfl trivial ?_
          refine WX.if_eq (off := 59) (tgt := 152) rfl rfl (fun _ => ?_) (fun c => absurd (by decide) c)
          refine WX.run (pc' := 158) (L' := [some (.ref 37), some (.ref 49), some (.int x2), some (.int x3), some (.int x4), some (.int 0)]) (st' := [.int 0, .int x3]) (M' := M) (P := True) 4 rfl trivial ?_
          refine WX.if_eq (off := 7) (tgt := 165) rfl rfl (fun _ => ?_) (fun c => absurd (by decide) c)
          refine WX.run (pc' := 5) (L' := [some (.ref 37), some (.ref 49), some (.int x2), some (.int (x3 + 0)), some (.int (x4 + 1)), some (.int 0)]) (st' := []) (M' := M) (P := True) 5 rfl trivial ?_
          refine WX.forget2 (L' := [some (.ref 37), some (.ref 49), some (.int x2), some (.int (x3 + 0)), some (.int (x4 + 1)), none]) ?_ ⟨Or.inr rfl, Or.inr rfl, Or.inr rfl, Or.inr rfl, Or.inr rfl, Or.inl rfl, trivial⟩
          exact (h9 c1 c2 c3 c4)
        · refine WX.run (pc' := 62) (L' := [some (.ref 37), some (.ref 49), some (.int x2), some (.int x3), some (.int x4), none]) (st' := [.int (x4 + 4), .int x4, .int x2, .ref 49]) (M' := M) (P := True) 6 rfl trivial ?_
          refine WX.callS (ca := mi_M_part) (n := 4) (d' := 1) (st := []) (As := [.ref 49, .int x2, .int x4, .int (x4 + 4)]) rfl lk_7_165 ck_M_part cs_M_part rfl (by decide) rfl (Nat.le_of_ble_eq_true rfl) (by intro w hw; simp only [List.mem_cons, List.not_mem_nil, or_false] at hw; rcases hw with rfl | rfl | rfl | rfl <;> rfl) (Nat.le_of_ble_eq_true rfl) ?_
          refine wx_M_part_49 M x2 x4 (x4 + 4) (b10 c1 c2 c3 c4) (b11 c1 c2 c3 c4) (b12 c1 c2 c3 c4) (b13 c1 c2 c3 c4) ?_
          show WX mi_M_crosses 4 Q 65 [some (.ref 37), some (.ref 49), some (.int x2), some (.int x3), some (.int x4), none] [.int (z_M_part_49 M x2 x4 (x4 + 4))] M
          refine WX.if_eq (off := 23) (tgt := 88) rfl rfl (fun c5 => ?_) (fun c5 => ?_)
          · refine WX.run (pc' := 93) (L' := [some (.ref 37), some (.ref 49), some (.int x2), some (.int x3), some (.int x4), some (.int 0)]) (st' := [.int 0]) (M' := M) (P := True) 3 rfl trivial ?_
            refine WX.if_eq (off := 59) (tgt := 152) rfl rfl (fun _ => ?_) (fun c => absurd (by decide) c)
            refine WX.run (pc' := 158) (L' := [some (.ref 37), some (.ref 49), some (.int x2), some (.int x3), some (.int x4), some (.int 0)]) (st' := [.int 0, .int x3]) (M' := M) (P := True) 4 rfl trivial ?_
            refine WX.if_eq (off := 7) (tgt := 165) rfl rfl (fun _ => ?_) (fun c => absurd (by decide) c)
            refine WX.run (pc' := 5) (L' := [some (.ref 37), some (.ref 49), some (.int x2), some (.int (x3 + 0)), some (.int (x4 + 1)), some (.int 0)]) (st' := []) (M' := M) (P := True) 5 rfl trivial ?_
            refine WX.forget2 (L' := [some (.ref 37), some (.ref 49), some (.int x2), some (.int (x3 + 0)), some (.int (x4 + 1)), none]) ?_ ⟨Or.inr rfl, Or.inr rfl, Or.inr rfl, Or.inr rfl, Or.inr rfl, Or.inl rfl, trivial⟩
            exact (h14 c1 c2 c3 c4 c5)
          · refine WX.run (pc' := 78) (L' := [some (.ref 37), some (.ref 49), some (.int x2), some (.int x3), some (.int x4), none]) (st' := [.int ((x4 + 4) + 1), .int x4, .int x2, .ref 49]) (M' := M) (P := True) 8 rfl trivial ?_
            refine WX.callS (ca := mi_M_part) (n := 4) (d' := 1) (st := []) (As := [.ref 49, .int x2, .int x4, .int ((x4 + 4) + 1)]) rfl lk_7_165 ck_M_part cs_M_part rfl (by decide) rfl (Nat.le_of_ble_eq_true rfl) (by intro w hw; simp only [List.mem_cons, List.not_mem_nil, or_false] at hw; rcases hw with rfl | rfl | rfl | rfl <;> rfl) (Nat.le_of_ble_eq_true rfl) ?_
            refine wx_M_part_49 M x2 x4 ((x4 + 4) + 1) (b15 c1 c2 c3 c4 c5) (b16 c1 c2 c3 c4 c5) (b17 c1 c2 c3 c4 c5) (b18 c1 c2 c3 c4 c5) ?_
            show WX mi_M_crosses 4 Q 81 [some (.ref 37), some (.ref 49), some (.int x2), some (.int x3), some (.int x4), none] [.int (z_M_part_49 M x2 x4 ((x4 + 4) + 1))] M
            refine WX.if_eq (off := 7) (tgt := 88) rfl rfl (fun c6 => ?_) (fun c6 => ?_)
            · refine WX.run (pc' := 93) (L' := [some (.ref 37), some (.ref 49), some (.int x2), some (.int x3), some (.int x4), some (.int 0)]) (st' := [.int 0]) (M' := M) (P := True) 3 rfl trivial ?_
              refine WX.if_eq (off := 59) (tgt := 152) rfl rfl (fun _ => ?_) (fun c => absurd (by decide) c)
              refine WX.run (pc' := 158) (L' := [some (.ref 37), some (.ref 49), some (.int x2), some (.int x3), some (.int x4), some (.int 0)]) (st' := [.int 0, .int x3]) (M' := M) (P := True) 4 rfl trivial ?_
              refine WX.if_eq (off := 7) (tgt := 165) rfl rfl (fun _ => ?_) (fun c => absurd (by decide) c)
              refine WX.run (pc' := 5) (L' := [some (.ref 37), some (.ref 49), some (.int x2), some (.int (x3 + 0)), some (.int (x4 + 1)), some (.int 0)]) (st' := []) (M' := M) (P := True) 5 rfl trivial ?_
              refine WX.forget2 (L' := [some (.ref 37), some (.ref 49), some (.int x2), some (.int (x3 + 0)), some (.int (x4 + 1)), none]) ?_ ⟨Or.inr rfl, Or.inr rfl, Or.inr rfl, Or.inr rfl, Or.inr rfl, Or.inl rfl, trivial⟩
              exact (h19 c1 c2 c3 c4 c5 c6)
            · refine WX.run (pc' := 93) (L' := [some (.ref 37), some (.ref 49), some (.int x2), some (.int x3), some (.int x4), some (.int 1)]) (st' := [.int 1]) (M' := M) (P := True) 4 rfl trivial ?_
              refine WX.if_eq (off := 59) (tgt := 152) rfl rfl (fun c => absurd c (by decide)) (fun _ => ?_)
              refine WX.run (pc' := 106) (L' := [some (.ref 37), some (.ref 49), some (.int x2), some (.int x3), some (.int x4), some (.int 1)]) (st' := [.int (x4 + 4), .int (x4 + 1), .int x2, .ref 49]) (M' := M) (P := True) 8 rfl trivial ?_
              refine WX.callS (ca := mi_M_part) (n := 4) (d' := 1) (st := []) (As := [.ref 49, .int x2, .int (x4 + 1), .int (x4 + 4)]) rfl lk_7_165 ck_M_part cs_M_part rfl (by decide) rfl (Nat.le_of_ble_eq_true rfl) (by intro w hw; simp only [List.mem_cons, List.not_mem_nil, or_false] at hw; rcases hw with rfl | rfl | rfl | rfl <;> rfl) (Nat.le_of_ble_eq_true rfl) ?_
              refine wx_M_part_49 M x2 (x4 + 1) (x4 + 4) (b20 c1 c2 c3 c4 c5 c6) (b21 c1 c2 c3 c4 c5 c6) (b22 c1 c2 c3 c4 c5 c6) (b23 c1 c2 c3 c4 c5 c6) ?_
              show WX mi_M_crosses 4 Q 109 [some (.ref 37), some (.ref 49), some (.int x2), some (.int x3), some (.int x4), some (.int 1)] [.int (z_M_part_49 M x2 (x4 + 1) (x4 + 4))] M
              refine WX.if_eq (off := 43) (tgt := 152) rfl rfl (fun c7 => ?_) (fun c7 => ?_)
              · refine WX.run (pc' := 158) (L' := [some (.ref 37), some (.ref 49), some (.int x2), some (.int x3), some (.int x4), some (.int 0)]) (st' := [.int 0, .int x3]) (M' := M) (P := True) 4 rfl trivial ?_
                refine WX.if_eq (off := 7) (tgt := 165) rfl rfl (fun _ => ?_) (fun c => absurd (by decide) c)
                refine WX.run (pc' := 5) (L' := [some (.ref 37), some (.ref 49), some (.int x2), some (.int (x3 + 0)), some (.int (x4 + 1)), some (.int 0)]) (st' := []) (M' := M) (P := True) 5 rfl trivial ?_
                refine WX.forget2 (L' := [some (.ref 37), some (.ref 49), some (.int x2), some (.int (x3 + 0)), some (.int (x4 + 1)), none]) ?_ ⟨Or.inr rfl, Or.inr rfl, Or.inr rfl, Or.inr rfl, Or.inr rfl, Or.inl rfl, trivial⟩
                exact (h24 c1 c2 c3 c4 c5 c6 c7)
              · refine WX.run (pc' := 124) (L' := [some (.ref 37), some (.ref 49), some (.int x2), some (.int x3), some (.int x4), some (.int 1)]) (st' := [.int ((x4 + 4) + 1), .int (x4 + 1), .int x2, .ref 49]) (M' := M) (P := True) 10 rfl trivial ?_
                refine WX.callS (ca := mi_M_part) (n := 4) (d' := 1) (st := []) (As := [.ref 49, .int x2, .int (x4 + 1), .int ((x4 + 4) + 1)]) rfl lk_7_165 ck_M_part cs_M_part rfl (by decide) rfl (Nat.le_of_ble_eq_true rfl) (by intro w hw; simp only [List.mem_cons, List.not_mem_nil, or_false] at hw; rcases hw with rfl | rfl | rfl | rfl <;> rfl) (Nat.le_of_ble_eq_true rfl) ?_
                refine wx_M_part_49 M x2 (x4 + 1) ((x4 + 4) + 1) (b25 c1 c2 c3 c4 c5 c6 c7) (b26 c1 c2 c3 c4 c5 c6 c7) (b27 c1 c2 c3 c4 c5 c6 c7) (b28 c1 c2 c3 c4 c5 c6 c7) ?_
                show WX mi_M_crosses 4 Q 127 [some (.ref 37), some (.ref 49), some (.int x2), some (.int x3), some (.int x4), some (.int 1)] [.int (z_M_part_49 M x2 (x4 + 1) ((x4 + 4) + 1))] M
                refine WX.if_eq (off := 25) (tgt := 152) rfl rfl (fun c8 => ?_) (fun c8 => ?_)
                · refine WX.run (pc' := 158) (L' := [some (.ref 37), some (.ref 49), some (.int x2), some (.int x3), some (.int x4), some (.int 0)]) (st' := [.int 0, .int x3]) (M' := M) (P := True) 4 rfl trivial ?_
                  refine WX.if_eq (off := 7) (tgt := 165) rfl rfl (fun _ => ?_) (fun c => absurd (by decide) c)
                  refine WX.run (pc' := 5) (L' := [some (.ref 37), some (.ref 49), some (.int x2), some (.int (x3 + 0)), some (.int (x4 + 1)), some (.int 0)]) (st' := []) (M' := M) (P := True) 5 rfl trivial ?_
                  refine WX.forget2 (L' := [some (.ref 37), some (.ref 49), some (.int x2), some (.int (x3 + 0)), some (.int (x4 + 1)), none]) ?_ ⟨Or.inr rfl, Or.inr rfl, Or.inr rfl, Or.inr rfl, Or.inr rfl, Or.inl rfl, trivial⟩
                  exact (h29 c1 c2 c3 c4 c5 c6 c7 c8)
                · refine WX.run (pc' := 142) (L' := [some (.ref 37), some (.ref 49), some (.int x2), some (.int x3), some (.int x4), some (.int 1)]) (st' := [.int ((x4 + 4) + 1), .int (x4 + 4), .int x2, .ref 49]) (M' := M) (P := True) 10 rfl trivial ?_
                  refine WX.callS (ca := mi_M_part) (n := 4) (d' := 1) (st := []) (As := [.ref 49, .int x2, .int (x4 + 4), .int ((x4 + 4) + 1)]) rfl lk_7_165 ck_M_part cs_M_part rfl (by decide) rfl (Nat.le_of_ble_eq_true rfl) (by intro w hw; simp only [List.mem_cons, List.not_mem_nil, or_false] at hw; rcases hw with rfl | rfl | rfl | rfl <;> rfl) (Nat.le_of_ble_eq_true rfl) ?_
                  refine wx_M_part_49 M x2 (x4 + 4) ((x4 + 4) + 1) (b30 c1 c2 c3 c4 c5 c6 c7 c8) (b31 c1 c2 c3 c4 c5 c6 c7 c8) (b32 c1 c2 c3 c4 c5 c6 c7 c8) (b33 c1 c2 c3 c4 c5 c6 c7 c8) ?_
                  show WX mi_M_crosses 4 Q 145 [some (.ref 37), some (.ref 49), some (.int x2), some (.int x3), some (.int x4), some (.int 1)] [.int (z_M_part_49 M x2 (x4 + 4) ((x4 + 4) + 1))] M
                  refine WX.if_eq (off := 7) (tgt := 152) rfl rfl (fun c9 => ?_) (fun c9 => ?_)
                  · refine WX.run (pc' := 158) (L' := [some (.ref 37), some (.ref 49), some (.int x2), some (.int x3), some (.int x4), some (.int 0)]) (st' := [.int 0, .int x3]) (M' := M) (P := True) 4 rfl trivial ?_
                    refine WX.if_eq (off := 7) (tgt := 165) rfl rfl (fun _ => ?_) (fun c => absurd (by decide) c)
                    refine WX.run (pc' := 5) (L' := [some (.ref 37), some (.ref 49), some (.int x2), some (.int (x3 + 0)), some (.int (x4 + 1)), some (.int 0)]) (st' := []) (M' := M) (P := True) 5 rfl trivial ?_
                    refine WX.forget2 (L' := [some (.ref 37), some (.ref 49), some (.int x2), some (.int (x3 + 0)), some (.int (x4 + 1)), none]) ?_ ⟨Or.inr rfl, Or.inr rfl, Or.inr rfl, Or.inr rfl, Or.inr rfl, Or.inl rfl, trivial⟩
                    exact (h34 c1 c2 c3 c4 c5 c6 c7 c8 c9)
                  · refine WX.run (pc' := 158) (L' := [some (.ref 37), some (.ref 49), some (.int x2), some (.int x3), some (.int x4), some (.int 1)]) (st' := [.int 1, .int x3]) (M' := M) (P := True) 5 rfl trivial ?_
                    refine WX.if_eq (off := 7) (tgt := 165) rfl rfl (fun c => absurd c (by decide)) (fun _ => ?_)
                    refine WX.run (pc' := 5) (L' := [some (.ref 37), some (.ref 49), some (.int x2), some (.int (x3 + 1)), some (.int (x4 + 1)), some (.int 1)]) (st' := []) (M' := M) (P := True) 6 rfl trivial ?_
                    refine WX.forget2 (L' := [some (.ref 37), some (.ref 49), some (.int x2), some (.int (x3 + 1)), some (.int (x4 + 1)), none]) ?_ ⟨Or.inr rfl, Or.inr rfl, Or.inr rfl, Or.inr rfl, Or.inr rfl, Or.inl rfl, trivial⟩
                    exact (h35 c1 c2 c3 c4 c5 c6 c7 c8 c9)
