/-! ===== printed by wip/gen/gen08.py: the stretches of the methods ===== -/
theorem sg_C_count_0_0 {Q : Option Value → Mem → Prop} (M : Mem) (x1 : Int32)
    (h1 : x1 = 0 → Q (some (.int (M.1 6 0))) M)
    (h2 : ¬ x1 = 0 → x1 = 1 → Q (some (.int (M.1 6 1))) M)
    (h3 : ¬ x1 = 0 → ¬ x1 = 1 → x1 = 2 → Q (some (.int (M.1 6 2))) M)
    (h4 : ¬ x1 = 0 → ¬ x1 = 1 → ¬ x1 = 2 → x1 = 3 → Q (some (.int (M.1 0 10))) M)
    (h5 : ¬ x1 = 0 → ¬ x1 = 1 → ¬ x1 = 2 → ¬ x1 = 3 → x1 = 4 → Q (some (.int (M.1 9 8))) M)
    (h6 : ¬ x1 = 0 → ¬ x1 = 1 → ¬ x1 = 2 → ¬ x1 = 3 → ¬ x1 = 4 → x1 = 5 → Q (some (.int (M.1 1 1))) M)
    (h7 : ¬ x1 = 0 → ¬ x1 = 1 → ¬ x1 = 2 → ¬ x1 = 3 → ¬ x1 = 4 → ¬ x1 = 5 → Q (some (.int (-1))) M) :
    WX mi_C_count 1 Q 0 [some (.ref 0), some (.int x1)] [] M := by
  refine WX.run (pc' := 1) (L' := [some (.ref 0), some (.int x1)]) (st' := [.int x1]) (M' := M) (P := True) 1 rfl trivial ?_
  by_cases c1 : x1 = 0
  · refine WX.tsw (tgt := 40) rfl (by decide) (by rw [c1]; decide) ?_
    refine WX.run (pc' := 47) (L' := [some (.ref 0), some (.int x1)]) (st' := [.int (M.1 6 0)]) (M' := M) (P := True) 3 rfl trivial ?_
    exact WX.iret rfl rfl (h1 c1)
  · skip
    by_cases c2 : x1 = 1
    · refine WX.tsw (tgt := 48) rfl (by decide) (by rw [c2]; decide) ?_
      refine WX.run (pc' := 55) (L' := [some (.ref 0), some (.int x1)]) (st' := [.int (M.1 6 1)]) (M' := M) (P := True) 3 rfl trivial ?_
      exact WX.iret rfl rfl (h2 c1 c2)
    · skip
      by_cases c3 : x1 = 2
      · refine WX.tsw (tgt := 56) rfl (by decide) (by rw [c3]; decide) ?_
        refine WX.run (pc' := 63) (L' := [some (.ref 0), some (.int x1)]) (st' := [.int (M.1 6 2)]) (M' := M) (P := True) 3 rfl trivial ?_
        exact WX.iret rfl rfl (h3 c1 c2 c3)
      · skip
        by_cases c4 : x1 = 3
        · refine WX.tsw (tgt := 64) rfl (by decide) (by rw [c4]; decide) ?_
          refine WX.run (pc' := 68) (L' := [some (.ref 0), some (.int x1)]) (st' := [.int (M.1 0 10)]) (M' := M) (P := True) 2 rfl trivial ?_
          exact WX.iret rfl rfl (h4 c1 c2 c3 c4)
        · skip
          by_cases c5 : x1 = 4
          · refine WX.tsw (tgt := 69) rfl (by decide) (by rw [c5]; decide) ?_
            refine WX.run (pc' := 76) (L' := [some (.ref 0), some (.int x1)]) (st' := [.int (M.1 9 8)]) (M' := M) (P := True) 3 rfl trivial ?_
            exact WX.iret rfl rfl (h5 c1 c2 c3 c4 c5)
          · skip
            by_cases c6 : x1 = 5
            · refine WX.tsw (tgt := 77) rfl (by decide) (by rw [c6]; decide) ?_
              refine WX.run (pc' := 84) (L' := [some (.ref 0), some (.int x1)]) (st' := [.int (M.1 1 1)]) (M' := M) (P := True) 3 rfl trivial ?_
              exact WX.iret rfl rfl (h6 c1 c2 c3 c4 c5 c6)
            · skip
              refine WX.tsw (tgt := 85) rfl (by decide) (by
                    by_cases hr : (x1).toInt < 0 ∨ 5 < (x1).toInt
                    · unfold tswo; rw [if_pos hr]; rfl
                    · have hh : (x1).toInt = 0 ∨ (x1).toInt = 1 ∨ (x1).toInt = 2 ∨ (x1).toInt = 3 ∨ (x1).toInt = 4 ∨ (x1).toInt = 5 := by omega
                      rcases hh with hh | hh | hh | hh | hh | hh
                      · exact absurd hh (i32_ne c1 (by decide))
                      · exact absurd hh (i32_ne c2 (by decide))
                      · exact absurd hh (i32_ne c3 (by decide))
                      · exact absurd hh (i32_ne c4 (by decide))
                      · exact absurd hh (i32_ne c5 (by decide))
                      · exact absurd hh (i32_ne c6 (by decide))) ?_
              refine WX.run (pc' := 86) (L' := [some (.ref 0), some (.int x1)]) (st' := [.int (-1)]) (M' := M) (P := True) 1 rfl trivial ?_
              exact WX.iret rfl rfl (h7 c1 c2 c3 c4 c5 c6)
def z_C_count_0 (M : Mem) (x1 : Int32) : Int32 := (if x1 = 0 then (M.1 6 0) else (if x1 = 1 then (M.1 6 1) else (if x1 = 2 then (M.1 6 2) else (if x1 = 3 then (M.1 0 10) else (if x1 = 4 then (M.1 9 8) else (if x1 = 5 then (M.1 1 1) else (-1)))))))
theorem wx_C_count_0 {Q : Option Value → Mem → Prop} (M : Mem) (x1 : Int32)
    (h : Q (some (.int (z_C_count_0 M x1))) M) :
    WX mi_C_count 1 Q 0 [some (.ref 0), some (.int x1)] [] M := by
  refine sg_C_count_0_0 M x1
    (fun c1 => by
      unfold z_C_count_0 at h
      rw [if_pos c1] at h
      exact h)
    (fun c1 c2 => by
      unfold z_C_count_0 at h
      rw [if_neg c1, if_pos c2] at h
      exact h)
    (fun c1 c2 c3 => by
      unfold z_C_count_0 at h
      rw [if_neg c1, if_neg c2, if_pos c3] at h
      exact h)
    (fun c1 c2 c3 c4 => by
      unfold z_C_count_0 at h
      rw [if_neg c1, if_neg c2, if_neg c3, if_pos c4] at h
      exact h)
    (fun c1 c2 c3 c4 c5 => by
      unfold z_C_count_0 at h
      rw [if_neg c1, if_neg c2, if_neg c3, if_neg c4, if_pos c5] at h
      exact h)
    (fun c1 c2 c3 c4 c5 c6 => by
      unfold z_C_count_0 at h
      rw [if_neg c1, if_neg c2, if_neg c3, if_neg c4, if_neg c5, if_pos c6] at h
      exact h)
    (fun c1 c2 c3 c4 c5 c6 => by
      unfold z_C_count_0 at h
      rw [if_neg c1, if_neg c2, if_neg c3, if_neg c4, if_neg c5, if_neg c6] at h
      exact h)
theorem sg_C_trace_0_0 {Q : Option Value → Mem → Prop} (M : Mem)
    (h1 : Q (some (.long (M.2 0))) M) :
    WX mi_C_trace 1 Q 0 [some (.ref 0)] [] M := by
  refine WX.run (pc' := 4) (L' := [some (.ref 0)]) (st' := [.long (M.2 0)]) (M' := M) (P := True) 2 rfl trivial ?_
  exact WX.lret rfl rfl h1
theorem sg_T_cell_104_0 {Q : Option Value → Mem → Prop} (M : Mem) (x1 : Int32)
    (h1 : (M.1 105 0) ≤ x1 → Q (some (.int (747796405 * (x1 + 1)))) M)
    (b2 : ¬ (M.1 105 0) ≤ x1 → vp_in x1 (M.1 105 0).toNatClampNeg)
    (h3 : ¬ (M.1 105 0) ≤ x1 → Q (some (.int (M.1 104 x1.toNatClampNeg))) M) :
    WX mi_T_cell 1 Q 0 [some (.ref 104), some (.int x1)] [] M := by
  refine WX.run (pc' := 3) (L' := [some (.ref 104), some (.int x1)]) (st' := [.int (M.1 105 0), .int x1]) (M' := M) (P := True) 3 rfl trivial ?_
  refine WX.icmp_ge (off := 9) (tgt := 12) rfl rfl (fun c1 => ?_) (fun c1 => ?_)
  · refine WX.run (pc' := 18) (L' := [some (.ref 104), some (.int x1)]) (st' := [.int (747796405 * (x1 + 1))]) (M' := M) (P := True) 5 rfl trivial ?_
    exact WX.iret rfl rfl (h1 c1)
  · refine WX.run (pc' := 18) (L' := [some (.ref 104), some (.int x1)]) (st' := [.int (M.1 104 x1.toNatClampNeg)]) (M' := M) (P := (True ∧ vp_in x1 (M.1 105 0).toNatClampNeg)) 4 rfl ⟨trivial, (b2 c1)⟩ ?_
    exact WX.iret rfl rfl (h3 c1)
def z_T_cell_104 (M : Mem) (x1 : Int32) : Int32 := (if (M.1 105 0) ≤ x1 then (747796405 * (x1 + 1)) else (M.1 104 x1.toNatClampNeg))
theorem wx_T_cell_104 {Q : Option Value → Mem → Prop} (M : Mem) (x1 : Int32)
    (b2 : ¬ (M.1 105 0) ≤ x1 → vp_in x1 (M.1 105 0).toNatClampNeg)
    (h : Q (some (.int (z_T_cell_104 M x1))) M) :
    WX mi_T_cell 1 Q 0 [some (.ref 104), some (.int x1)] [] M := by
  refine sg_T_cell_104_0 M x1
    (fun c1 => by
      unfold z_T_cell_104 at h
      rw [if_pos c1] at h
      exact h)
    b2
    (fun c1 => by
      unfold z_T_cell_104 at h
      rw [if_neg c1] at h
      exact h)
theorem sg_T_low_0 {Q : Option Value → Mem → Prop} (M : Mem) (x0 x1 : Int32)
    (b1 : ¬ x1 = 0)
    (h2 : Q (some (.int (rem (x0 &&& 2147483647) x1))) M) :
    WX mi_T_low 1 Q 0 [some (.int x0), some (.int x1)] [] M := by
  refine WX.run (pc' := 6) (L' := [some (.int x0), some (.int x1)]) (st' := [.int (rem (x0 &&& 2147483647) x1)]) (M' := M) (P := (True ∧ ¬ x1 = 0)) 5 rfl ⟨trivial, b1⟩ ?_
  exact WX.iret rfl rfl h2
def z_T_low (x0 x1 : Int32) : Int32 := (rem (x0 &&& 2147483647) x1)
theorem wx_T_low {Q : Option Value → Mem → Prop} (M : Mem) (x0 x1 : Int32)
    (b1 : ¬ x1 = 0)
    (h : Q (some (.int (z_T_low x0 x1))) M) :
    WX mi_T_low 1 Q 0 [some (.int x0), some (.int x1)] [] M := by
  refine sg_T_low_0 M x0 x1
    b1
    (by
      unfold z_T_low at h
      exact h)
theorem sg_T_refused_0_0 {Q : Option Value → Mem → Prop} (M : Mem) (x1 : Int32)
    (h1 : 0 ≤ x1 → WX mi_C_type 2 (fun rv M' => WX mi_T_refused 27 Q 23 [some (.ref 0), some (.int x1), some (.int (x1 + 1000))] (rv.toList ++ []) M') 0 [some (.ref 0), some (.int (-1))] [] M)
    (h2 : ¬ 0 ≤ x1 → WX mi_C_type 2 (fun rv M' => WX mi_T_refused 27 Q 23 [some (.ref 0), some (.int x1), some (.int (x1 - 999))] (rv.toList ++ []) M') 0 [some (.ref 0), some (.int (-1))] [] M) :
    WX mi_T_refused 27 Q 0 [some (.ref 0), some (.int x1), none] [] M := by
  refine WX.run (pc' := 1) (L' := [some (.ref 0), some (.int x1), none]) (st' := [.int x1]) (M' := M) (P := True) 1 rfl trivial ?_
  refine WX.if_ge (off := 11) (tgt := 12) rfl rfl (fun c1 => ?_) (fun c1 => ?_)
  · refine WX.run (pc' := 20) (L' := [some (.ref 0), some (.int x1), some (.int (x1 + 1000))]) (st' := [.int (-1), .ref 0]) (M' := M) (P := True) 6 rfl trivial ?_
    refine WX.callV (ca := mi_C_type) (n := 1) (d' := 2) (st := []) (As := [.int (-1)]) (q := 0) rfl lk_10_9 ck_C_type cv_C_type rfl (by decide) rfl (Nat.le_of_ble_eq_true rfl) ⟨by decide, rfl, by decide⟩ (by intro w hw; simp only [List.mem_cons, List.not_mem_nil, or_false] at hw; rcases hw with rfl <;> rfl) (Nat.le_of_ble_eq_true rfl) ?_
    exact (h1 c1)
  · refine WX.run (pc' := 20) (L' := [some (.ref 0), some (.int x1), some (.int (x1 - 999))]) (st' := [.int (-1), .ref 0]) (M' := M) (P := True) 7 rfl trivial ?_
    refine WX.callV (ca := mi_C_type) (n := 1) (d' := 2) (st := []) (As := [.int (-1)]) (q := 0) rfl lk_10_9 ck_C_type cv_C_type rfl (by decide) rfl (Nat.le_of_ble_eq_true rfl) ⟨by decide, rfl, by decide⟩ (by intro w hw; simp only [List.mem_cons, List.not_mem_nil, or_false] at hw; rcases hw with rfl <;> rfl) (Nat.le_of_ble_eq_true rfl) ?_
    exact (h2 c1)
theorem sg_T_refused_0_23 {Q : Option Value → Mem → Prop} (M : Mem) (x1 x2 r : Int32)
    (h1 : ¬ r = (-1) → Q (some (.int 0)) M)
    (h2 : r = (-1) → WX mi_C_type 2 (fun rv M' => WX mi_T_refused 27 Q 34 [some (.ref 0), some (.int x1), some (.int x2)] (rv.toList ++ []) M') 0 [some (.ref 0), some (.int 256)] [] M) :
    WX mi_T_refused 27 Q 23 [some (.ref 0), some (.int x1), some (.int x2)] [.int r] M := by
  refine WX.run (pc' := 24) (L' := [some (.ref 0), some (.int x1), some (.int x2)]) (st' := [.int (-1), .int r]) (M' := M) (P := True) 1 rfl trivial ?_
  refine WX.icmp_ne (off := 189) (tgt := 213) rfl rfl (fun c1 => ?_) (fun c1 => ?_)
  · refine WX.run (pc' := 214) (L' := [some (.ref 0), some (.int x1), some (.int x2)]) (st' := [.int 0]) (M' := M) (P := True) 1 rfl trivial ?_
    exact WX.zret rfl rfl (Or.inl rfl) (h1 c1)
  · refine WX.run (pc' := 31) (L' := [some (.ref 0), some (.int x1), some (.int x2)]) (st' := [.int 256, .ref 0]) (M' := M) (P := True) 2 rfl trivial ?_
    refine WX.callV (ca := mi_C_type) (n := 1) (d' := 2) (st := []) (As := [.int 256]) (q := 0) rfl lk_10_9 ck_C_type cv_C_type rfl (by decide) rfl (Nat.le_of_ble_eq_true rfl) ⟨by decide, rfl, by decide⟩ (by intro w hw; simp only [List.mem_cons, List.not_mem_nil, or_false] at hw; rcases hw with rfl <;> rfl) (Nat.le_of_ble_eq_true rfl) ?_
    exact (h2 c1)
theorem sg_T_refused_0_34 {Q : Option Value → Mem → Prop} (M : Mem) (x1 x2 r : Int32)
    (h1 : ¬ r = (-1) → Q (some (.int 0)) M)
    (h2 : r = (-1) → WX mi_C_cell 5 (fun rv M' => WX mi_T_refused 27 Q 45 [some (.ref 0), some (.int x1), some (.int x2)] (rv.toList ++ []) M') 0 [some (.ref 0), some (.int x2), some (.int 0), some (.int 0), none, none] [] M) :
    WX mi_T_refused 27 Q 34 [some (.ref 0), some (.int x1), some (.int x2)] [.int r] M := by
  refine WX.run (pc' := 35) (L' := [some (.ref 0), some (.int x1), some (.int x2)]) (st' := [.int (-1), .int r]) (M' := M) (P := True) 1 rfl trivial ?_
  refine WX.icmp_ne (off := 178) (tgt := 213) rfl rfl (fun c1 => ?_) (fun c1 => ?_)
  · refine WX.run (pc' := 214) (L' := [some (.ref 0), some (.int x1), some (.int x2)]) (st' := [.int 0]) (M' := M) (P := True) 1 rfl trivial ?_
    exact WX.zret rfl rfl (Or.inl rfl) (h1 c1)
  · refine WX.run (pc' := 42) (L' := [some (.ref 0), some (.int x1), some (.int x2)]) (st' := [.int 0, .int 0, .int x2, .ref 0]) (M' := M) (P := True) 4 rfl trivial ?_
    refine WX.callV (ca := mi_C_cell) (n := 3) (d' := 5) (st := []) (As := [.int x2, .int 0, .int 0]) (q := 0) rfl lk_10_15 ck_C_cell cv_C_cell rfl (by decide) rfl (Nat.le_of_ble_eq_true rfl) ⟨by decide, rfl, by decide⟩ (by intro w hw; simp only [List.mem_cons, List.not_mem_nil, or_false] at hw; rcases hw with rfl | rfl | rfl <;> rfl) (Nat.le_of_ble_eq_true rfl) ?_
    exact (h2 c1)
theorem sg_T_refused_0_45 {Q : Option Value → Mem → Prop} (M : Mem) (x1 x2 r : Int32)
    (h1 : ¬ r = (-1) → Q (some (.int 0)) M)
    (h2 : r = (-1) → WX mi_C_lays 5 (fun rv M' => WX mi_T_refused 27 Q 56 [some (.ref 0), some (.int x1), some (.int x2)] (rv.toList ++ []) M') 0 [some (.ref 0), some (.int 0), some (.int 0), some (.int x2), none] [] M) :
    WX mi_T_refused 27 Q 45 [some (.ref 0), some (.int x1), some (.int x2)] [.int r] M := by
  refine WX.run (pc' := 46) (L' := [some (.ref 0), some (.int x1), some (.int x2)]) (st' := [.int (-1), .int r]) (M' := M) (P := True) 1 rfl trivial ?_
  refine WX.icmp_ne (off := 167) (tgt := 213) rfl rfl (fun c1 => ?_) (fun c1 => ?_)
  · refine WX.run (pc' := 214) (L' := [some (.ref 0), some (.int x1), some (.int x2)]) (st' := [.int 0]) (M' := M) (P := True) 1 rfl trivial ?_
    exact WX.zret rfl rfl (Or.inl rfl) (h1 c1)
  · refine WX.run (pc' := 53) (L' := [some (.ref 0), some (.int x1), some (.int x2)]) (st' := [.int x2, .int 0, .int 0, .ref 0]) (M' := M) (P := True) 4 rfl trivial ?_
    refine WX.callV (ca := mi_C_lays) (n := 3) (d' := 5) (st := []) (As := [.int 0, .int 0, .int x2]) (q := 0) rfl lk_10_19 ck_C_lays cv_C_lays rfl (by decide) rfl (Nat.le_of_ble_eq_true rfl) ⟨by decide, rfl, by decide⟩ (by intro w hw; simp only [List.mem_cons, List.not_mem_nil, or_false] at hw; rcases hw with rfl | rfl | rfl <;> rfl) (Nat.le_of_ble_eq_true rfl) ?_
    exact (h2 c1)
theorem sg_T_refused_0_56 {Q : Option Value → Mem → Prop} (M : Mem) (x1 x2 r : Int32)
    (h1 : ¬ r = (-1) → Q (some (.int 0)) M)
    (h2 : r = (-1) → WX mi_C_lifts 5 (fun rv M' => WX mi_T_refused 27 Q 66 [some (.ref 0), some (.int x1), some (.int x2)] (rv.toList ++ []) M') 0 [some (.ref 0), some (.int x2), some (.int 0), none] [] M) :
    WX mi_T_refused 27 Q 56 [some (.ref 0), some (.int x1), some (.int x2)] [.int r] M := by
  refine WX.run (pc' := 57) (L' := [some (.ref 0), some (.int x1), some (.int x2)]) (st' := [.int (-1), .int r]) (M' := M) (P := True) 1 rfl trivial ?_
  refine WX.icmp_ne (off := 156) (tgt := 213) rfl rfl (fun c1 => ?_) (fun c1 => ?_)
  · refine WX.run (pc' := 214) (L' := [some (.ref 0), some (.int x1), some (.int x2)]) (st' := [.int 0]) (M' := M) (P := True) 1 rfl trivial ?_
    exact WX.zret rfl rfl (Or.inl rfl) (h1 c1)
  · refine WX.run (pc' := 63) (L' := [some (.ref 0), some (.int x1), some (.int x2)]) (st' := [.int 0, .int x2, .ref 0]) (M' := M) (P := True) 3 rfl trivial ?_
    refine WX.callV (ca := mi_C_lifts) (n := 2) (d' := 5) (st := []) (As := [.int x2, .int 0]) (q := 0) rfl lk_10_22 ck_C_lifts cv_C_lifts rfl (by decide) rfl (Nat.le_of_ble_eq_true rfl) ⟨by decide, rfl, by decide⟩ (by intro w hw; simp only [List.mem_cons, List.not_mem_nil, or_false] at hw; rcases hw with rfl | rfl <;> rfl) (Nat.le_of_ble_eq_true rfl) ?_
    exact (h2 c1)
theorem sg_T_refused_0_66 {Q : Option Value → Mem → Prop} (M : Mem) (x1 x2 r : Int32)
    (h1 : ¬ r = (-1) → Q (some (.int 0)) M)
    (h2 : r = (-1) → WX mi_C_raises 4 (fun rv M' => WX mi_T_refused 27 Q 77 [some (.ref 0), some (.int x1), some (.int x2)] (rv.toList ++ []) M') 0 [some (.ref 0), some (.int 0), some (.int 0), some (.int x2), none] [] M) :
    WX mi_T_refused 27 Q 66 [some (.ref 0), some (.int x1), some (.int x2)] [.int r] M := by
  refine WX.run (pc' := 67) (L' := [some (.ref 0), some (.int x1), some (.int x2)]) (st' := [.int (-1), .int r]) (M' := M) (P := True) 1 rfl trivial ?_
  refine WX.icmp_ne (off := 146) (tgt := 213) rfl rfl (fun c1 => ?_) (fun c1 => ?_)
  · refine WX.run (pc' := 214) (L' := [some (.ref 0), some (.int x1), some (.int x2)]) (st' := [.int 0]) (M' := M) (P := True) 1 rfl trivial ?_
    exact WX.zret rfl rfl (Or.inl rfl) (h1 c1)
  · refine WX.run (pc' := 74) (L' := [some (.ref 0), some (.int x1), some (.int x2)]) (st' := [.int x2, .int 0, .int 0, .ref 0]) (M' := M) (P := True) 4 rfl trivial ?_
    refine WX.callV (ca := mi_C_raises) (n := 3) (d' := 4) (st := []) (As := [.int 0, .int 0, .int x2]) (q := 0) rfl lk_10_26 ck_C_raises cv_C_raises rfl (by decide) rfl (Nat.le_of_ble_eq_true rfl) ⟨by decide, rfl, by decide⟩ (by intro w hw; simp only [List.mem_cons, List.not_mem_nil, or_false] at hw; rcases hw with rfl | rfl | rfl <;> rfl) (Nat.le_of_ble_eq_true rfl) ?_
    exact (h2 c1)
theorem sg_T_refused_0_77 {Q : Option Value → Mem → Prop} (M : Mem) (x1 x2 r : Int32)
    (h1 : ¬ r = (-1) → Q (some (.int 0)) M)
    (h2 : r = (-1) → WX mi_C_now 5 (fun rv M' => WX mi_T_refused 27 Q 86 [some (.ref 0), some (.int x1), some (.int x2)] (rv.toList ++ []) M') 0 [some (.ref 0), some (.int x2)] [] M) :
    WX mi_T_refused 27 Q 77 [some (.ref 0), some (.int x1), some (.int x2)] [.int r] M := by
  refine WX.run (pc' := 78) (L' := [some (.ref 0), some (.int x1), some (.int x2)]) (st' := [.int (-1), .int r]) (M' := M) (P := True) 1 rfl trivial ?_
  refine WX.icmp_ne (off := 135) (tgt := 213) rfl rfl (fun c1 => ?_) (fun c1 => ?_)
  · refine WX.run (pc' := 214) (L' := [some (.ref 0), some (.int x1), some (.int x2)]) (st' := [.int 0]) (M' := M) (P := True) 1 rfl trivial ?_
    exact WX.zret rfl rfl (Or.inl rfl) (h1 c1)
  · refine WX.run (pc' := 83) (L' := [some (.ref 0), some (.int x1), some (.int x2)]) (st' := [.int x2, .ref 0]) (M' := M) (P := True) 2 rfl trivial ?_
    refine WX.callV (ca := mi_C_now) (n := 1) (d' := 5) (st := []) (As := [.int x2]) (q := 0) rfl lk_10_29 ck_C_now cv_C_now rfl (by decide) rfl (Nat.le_of_ble_eq_true rfl) ⟨by decide, rfl, by decide⟩ (by intro w hw; simp only [List.mem_cons, List.not_mem_nil, or_false] at hw; rcases hw with rfl <;> rfl) (Nat.le_of_ble_eq_true rfl) ?_
    exact (h2 c1)
theorem sg_T_refused_0_86 {Q : Option Value → Mem → Prop} (M : Mem) (x1 x2 r : Int32)
    (h1 : ¬ r = (-1) → Q (some (.int 0)) M)
    (b2 : r = (-1) → ¬ (z_C_isSize x2) = 0 → vp_in x2 4)
    (h3 : r = (-1) → ¬ (z_C_stock_0 M x2) = (-1) → Q (some (.int 0)) M)
    (h4 : r = (-1) → (z_C_stock_0 M x2) = (-1) → WX mi_C_drop 5 (fun rv M' => WX mi_T_refused 27 Q 106 [some (.ref 0), some (.int x1), some (.int x2)] (rv.toList ++ []) M') 0 [some (.ref 0), some (.int 0), some (.int x2), some (.int 0), none] [] M) :
    WX mi_T_refused 27 Q 86 [some (.ref 0), some (.int x1), some (.int x2)] [.int r] M := by
  refine WX.run (pc' := 87) (L' := [some (.ref 0), some (.int x1), some (.int x2)]) (st' := [.int (-1), .int r]) (M' := M) (P := True) 1 rfl trivial ?_
  refine WX.icmp_ne (off := 126) (tgt := 213) rfl rfl (fun c1 => ?_) (fun c1 => ?_)
  · refine WX.run (pc' := 214) (L' := [some (.ref 0), some (.int x1), some (.int x2)]) (st' := [.int 0]) (M' := M) (P := True) 1 rfl trivial ?_
    exact WX.zret rfl rfl (Or.inl rfl) (h1 c1)
  · refine WX.run (pc' := 92) (L' := [some (.ref 0), some (.int x1), some (.int x2)]) (st' := [.int x2, .ref 0]) (M' := M) (P := True) 2 rfl trivial ?_
    refine WX.callV (ca := mi_C_stock) (n := 1) (d' := 2) (st := []) (As := [.int x2]) (q := 0) rfl lk_10_32 ck_C_stock cv_C_stock rfl (by decide) rfl (Nat.le_of_ble_eq_true rfl) ⟨by decide, rfl, by decide⟩ (by intro w hw; simp only [List.mem_cons, List.not_mem_nil, or_false] at hw; rcases hw with rfl <;> rfl) (Nat.le_of_ble_eq_true rfl) ?_
    refine wx_C_stock_0 M x2 (b2 c1) ?_
    show WX mi_T_refused 27 Q 95 [some (.ref 0), some (.int x1), some (.int x2)] [.int (z_C_stock_0 M x2)] M
    refine WX.run (pc' := 96) (L' := [some (.ref 0), some (.int x1), some (.int x2)]) (st' := [.int (-1), .int (z_C_stock_0 M x2)]) (M' := M) (P := True) 1 rfl trivial ?_
    refine WX.icmp_ne (off := 117) (tgt := 213) rfl rfl (fun c2 => ?_) (fun c2 => ?_)
    · refine WX.run (pc' := 214) (L' := [some (.ref 0), some (.int x1), some (.int x2)]) (st' := [.int 0]) (M' := M) (P := True) 1 rfl trivial ?_
      exact WX.zret rfl rfl (Or.inl rfl) (h3 c1 c2)
    · refine WX.run (pc' := 103) (L' := [some (.ref 0), some (.int x1), some (.int x2)]) (st' := [.int 0, .int x2, .int 0, .ref 0]) (M' := M) (P := True) 4 rfl trivial ?_
      refine WX.callV (ca := mi_C_drop) (n := 3) (d' := 5) (st := []) (As := [.int 0, .int x2, .int 0]) (q := 0) rfl lk_10_35 ck_C_drop cv_C_drop rfl (by decide) rfl (Nat.le_of_ble_eq_true rfl) ⟨by decide, rfl, by decide⟩ (by intro w hw; simp only [List.mem_cons, List.not_mem_nil, or_false] at hw; rcases hw with rfl | rfl | rfl <;> rfl) (Nat.le_of_ble_eq_true rfl) ?_
      exact (h4 c1 c2)
theorem sg_T_refused_0_106 {Q : Option Value → Mem → Prop} (M : Mem) (x1 x2 r : Int32)
    (h1 : ¬ r = (-1) → Q (some (.int 0)) M)
    (h2 : r = (-1) → WX mi_C_feeds 5 (fun rv M' => WX mi_T_refused 27 Q 116 [some (.ref 0), some (.int x1), some (.int x2)] (rv.toList ++ []) M') 0 [some (.ref 0), some (.int x2), some (.int 0), none, none, none, none] [] M) :
    WX mi_T_refused 27 Q 106 [some (.ref 0), some (.int x1), some (.int x2)] [.int r] M := by
  refine WX.run (pc' := 107) (L' := [some (.ref 0), some (.int x1), some (.int x2)]) (st' := [.int (-1), .int r]) (M' := M) (P := True) 1 rfl trivial ?_
  refine WX.icmp_ne (off := 106) (tgt := 213) rfl rfl (fun c1 => ?_) (fun c1 => ?_)
  · refine WX.run (pc' := 214) (L' := [some (.ref 0), some (.int x1), some (.int x2)]) (st' := [.int 0]) (M' := M) (P := True) 1 rfl trivial ?_
    exact WX.zret rfl rfl (Or.inl rfl) (h1 c1)
  · refine WX.run (pc' := 113) (L' := [some (.ref 0), some (.int x1), some (.int x2)]) (st' := [.int 0, .int x2, .ref 0]) (M' := M) (P := True) 3 rfl trivial ?_
    refine WX.callV (ca := mi_C_feeds) (n := 2) (d' := 5) (st := []) (As := [.int x2, .int 0]) (q := 0) rfl lk_10_38 ck_C_feeds cv_C_feeds rfl (by decide) rfl (Nat.le_of_ble_eq_true rfl) ⟨by decide, rfl, by decide⟩ (by intro w hw; simp only [List.mem_cons, List.not_mem_nil, or_false] at hw; rcases hw with rfl | rfl <;> rfl) (Nat.le_of_ble_eq_true rfl) ?_
    exact (h2 c1)
theorem sg_T_refused_0_116 {Q : Option Value → Mem → Prop} (M : Mem) (x1 x2 r : Int32)
    (h1 : ¬ r = (-1) → Q (some (.int 0)) M)
    (h2 : r = (-1) → WX mi_C_mend 5 (fun rv M' => WX mi_T_refused 27 Q 125 [some (.ref 0), some (.int x1), some (.int x2)] (rv.toList ++ []) M') 0 [some (.ref 0), some (.int x2)] [] M) :
    WX mi_T_refused 27 Q 116 [some (.ref 0), some (.int x1), some (.int x2)] [.int r] M := by
  refine WX.run (pc' := 117) (L' := [some (.ref 0), some (.int x1), some (.int x2)]) (st' := [.int (-1), .int r]) (M' := M) (P := True) 1 rfl trivial ?_
  refine WX.icmp_ne (off := 96) (tgt := 213) rfl rfl (fun c1 => ?_) (fun c1 => ?_)
  · refine WX.run (pc' := 214) (L' := [some (.ref 0), some (.int x1), some (.int x2)]) (st' := [.int 0]) (M' := M) (P := True) 1 rfl trivial ?_
    exact WX.zret rfl rfl (Or.inl rfl) (h1 c1)
  · refine WX.run (pc' := 122) (L' := [some (.ref 0), some (.int x1), some (.int x2)]) (st' := [.int x2, .ref 0]) (M' := M) (P := True) 2 rfl trivial ?_
    refine WX.callV (ca := mi_C_mend) (n := 1) (d' := 5) (st := []) (As := [.int x2]) (q := 0) rfl lk_10_41 ck_C_mend cv_C_mend rfl (by decide) rfl (Nat.le_of_ble_eq_true rfl) ⟨by decide, rfl, by decide⟩ (by intro w hw; simp only [List.mem_cons, List.not_mem_nil, or_false] at hw; rcases hw with rfl <;> rfl) (Nat.le_of_ble_eq_true rfl) ?_
    exact (h2 c1)
theorem sg_T_refused_0_125 {Q : Option Value → Mem → Prop} (M : Mem) (x1 x2 r : Int32)
    (h1 : ¬ r = (-1) → Q (some (.int 0)) M)
    (h2 : r = (-1) → WX mi_C_plan 26 (fun rv M' => WX mi_T_refused 27 Q 134 [some (.ref 0), some (.int x1), some (.int x2)] (rv.toList ++ []) M') 0 [some (.ref 0), some (.int x2)] [] M) :
    WX mi_T_refused 27 Q 125 [some (.ref 0), some (.int x1), some (.int x2)] [.int r] M := by
  refine WX.run (pc' := 126) (L' := [some (.ref 0), some (.int x1), some (.int x2)]) (st' := [.int (-1), .int r]) (M' := M) (P := True) 1 rfl trivial ?_
  refine WX.icmp_ne (off := 87) (tgt := 213) rfl rfl (fun c1 => ?_) (fun c1 => ?_)
  · refine WX.run (pc' := 214) (L' := [some (.ref 0), some (.int x1), some (.int x2)]) (st' := [.int 0]) (M' := M) (P := True) 1 rfl trivial ?_
    exact WX.zret rfl rfl (Or.inl rfl) (h1 c1)
  · refine WX.run (pc' := 131) (L' := [some (.ref 0), some (.int x1), some (.int x2)]) (st' := [.int x2, .ref 0]) (M' := M) (P := True) 2 rfl trivial ?_
    refine WX.callV (ca := mi_C_plan) (n := 1) (d' := 26) (st := []) (As := [.int x2]) (q := 0) rfl lk_10_44 ck_C_plan cv_C_plan rfl (by decide) rfl (Nat.le_of_ble_eq_true rfl) ⟨by decide, rfl, by decide⟩ (by intro w hw; simp only [List.mem_cons, List.not_mem_nil, or_false] at hw; rcases hw with rfl <;> rfl) (Nat.le_of_ble_eq_true rfl) ?_
    exact (h2 c1)
theorem sg_T_refused_0_134 {Q : Option Value → Mem → Prop} (M : Mem) (x1 x2 r : Int32)
    (h1 : ¬ r = (-1) → Q (some (.int 0)) M)
    (h2 : r = (-1) → WX mi_C_barrow 5 (fun rv M' => WX mi_T_refused 27 Q 144 [some (.ref 0), some (.int x1), some (.int x2)] (rv.toList ++ []) M') 0 [some (.ref 0), some (.int x2), some (.int 0), none, none, none, none] [] M) :
    WX mi_T_refused 27 Q 134 [some (.ref 0), some (.int x1), some (.int x2)] [.int r] M := by
  refine WX.run (pc' := 135) (L' := [some (.ref 0), some (.int x1), some (.int x2)]) (st' := [.int (-1), .int r]) (M' := M) (P := True) 1 rfl trivial ?_
  refine WX.icmp_ne (off := 78) (tgt := 213) rfl rfl (fun c1 => ?_) (fun c1 => ?_)
  · refine WX.run (pc' := 214) (L' := [some (.ref 0), some (.int x1), some (.int x2)]) (st' := [.int 0]) (M' := M) (P := True) 1 rfl trivial ?_
    exact WX.zret rfl rfl (Or.inl rfl) (h1 c1)
  · refine WX.run (pc' := 141) (L' := [some (.ref 0), some (.int x1), some (.int x2)]) (st' := [.int 0, .int x2, .ref 0]) (M' := M) (P := True) 3 rfl trivial ?_
    refine WX.callV (ca := mi_C_barrow) (n := 2) (d' := 5) (st := []) (As := [.int x2, .int 0]) (q := 0) rfl lk_10_47 ck_C_barrow cv_C_barrow rfl (by decide) rfl (Nat.le_of_ble_eq_true rfl) ⟨by decide, rfl, by decide⟩ (by intro w hw; simp only [List.mem_cons, List.not_mem_nil, or_false] at hw; rcases hw with rfl | rfl <;> rfl) (Nat.le_of_ble_eq_true rfl) ?_
    exact (h2 c1)
theorem sg_T_refused_0_144 {Q : Option Value → Mem → Prop} (M : Mem) (x1 x2 r : Int32)
    (h1 : ¬ r = (-1) → Q (some (.int 0)) M)
    (h2 : r = (-1) → WX mi_C_odds 2 (fun rv M' => WX mi_T_refused 27 Q 156 [some (.ref 0), some (.int x1), some (.int x2)] (rv.toList ++ []) M') 0 [some (.ref 0), some (.int x2), some (.int 0), some (.int 0), some (.int 0), none, none, none] [] M) :
    WX mi_T_refused 27 Q 144 [some (.ref 0), some (.int x1), some (.int x2)] [.int r] M := by
  refine WX.run (pc' := 145) (L' := [some (.ref 0), some (.int x1), some (.int x2)]) (st' := [.int (-1), .int r]) (M' := M) (P := True) 1 rfl trivial ?_
  refine WX.icmp_ne (off := 68) (tgt := 213) rfl rfl (fun c1 => ?_) (fun c1 => ?_)
  · refine WX.run (pc' := 214) (L' := [some (.ref 0), some (.int x1), some (.int x2)]) (st' := [.int 0]) (M' := M) (P := True) 1 rfl trivial ?_
    exact WX.zret rfl rfl (Or.inl rfl) (h1 c1)
  · refine WX.run (pc' := 153) (L' := [some (.ref 0), some (.int x1), some (.int x2)]) (st' := [.int 0, .int 0, .int 0, .int x2, .ref 0]) (M' := M) (P := True) 5 rfl trivial ?_
    refine WX.callV (ca := mi_C_odds) (n := 4) (d' := 2) (st := []) (As := [.int x2, .int 0, .int 0, .int 0]) (q := 0) rfl lk_10_50 ck_C_odds cv_C_odds rfl (by decide) rfl (Nat.le_of_ble_eq_true rfl) ⟨by decide, rfl, by decide⟩ (by intro w hw; simp only [List.mem_cons, List.not_mem_nil, or_false] at hw; rcases hw with rfl | rfl | rfl | rfl <;> rfl) (Nat.le_of_ble_eq_true rfl) ?_
    exact (h2 c1)
theorem sg_T_refused_0_156 {Q : Option Value → Mem → Prop} (M : Mem) (x1 x2 r : Int32)
    (h1 : ¬ r = (-1) → Q (some (.int 0)) M)
    (h2 : r = (-1) → WX mi_C_saw 3 (fun rv M' => WX mi_T_refused 27 Q 166 [some (.ref 0), some (.int x1), some (.int x2)] (rv.toList ++ []) M') 0 [some (.ref 0), some (.int x2), some (.int 0)] [] M) :
    WX mi_T_refused 27 Q 156 [some (.ref 0), some (.int x1), some (.int x2)] [.int r] M := by
  refine WX.run (pc' := 157) (L' := [some (.ref 0), some (.int x1), some (.int x2)]) (st' := [.int (-1), .int r]) (M' := M) (P := True) 1 rfl trivial ?_
  refine WX.icmp_ne (off := 56) (tgt := 213) rfl rfl (fun c1 => ?_) (fun c1 => ?_)
  · refine WX.run (pc' := 214) (L' := [some (.ref 0), some (.int x1), some (.int x2)]) (st' := [.int 0]) (M' := M) (P := True) 1 rfl trivial ?_
    exact WX.zret rfl rfl (Or.inl rfl) (h1 c1)
  · refine WX.run (pc' := 163) (L' := [some (.ref 0), some (.int x1), some (.int x2)]) (st' := [.int 0, .int x2, .ref 0]) (M' := M) (P := True) 3 rfl trivial ?_
    refine WX.callV (ca := mi_C_saw) (n := 2) (d' := 3) (st := []) (As := [.int x2, .int 0]) (q := 0) rfl lk_10_54 ck_C_saw cv_C_saw rfl (by decide) rfl (Nat.le_of_ble_eq_true rfl) ⟨by decide, rfl, by decide⟩ (by intro w hw; simp only [List.mem_cons, List.not_mem_nil, or_false] at hw; rcases hw with rfl | rfl <;> rfl) (Nat.le_of_ble_eq_true rfl) ?_
    exact (h2 c1)
theorem sg_T_refused_0_166 {Q : Option Value → Mem → Prop} (M : Mem) (x1 x2 r : Int32)
    (h1 : ¬ r = (-1) → Q (some (.int 0)) M)
    (h2 : r = (-1) → WX mi_C_mark 6 (fun rv M' => WX mi_T_refused 27 Q 177 [some (.ref 0), some (.int x1), some (.int x2)] (rv.toList ++ []) M') 0 [some (.ref 0), some (.int x2), some (.int 0), some (.int 0), none] [] M) :
    WX mi_T_refused 27 Q 166 [some (.ref 0), some (.int x1), some (.int x2)] [.int r] M := by
  refine WX.run (pc' := 167) (L' := [some (.ref 0), some (.int x1), some (.int x2)]) (st' := [.int (-1), .int r]) (M' := M) (P := True) 1 rfl trivial ?_
  refine WX.icmp_ne (off := 46) (tgt := 213) rfl rfl (fun c1 => ?_) (fun c1 => ?_)
  · refine WX.run (pc' := 214) (L' := [some (.ref 0), some (.int x1), some (.int x2)]) (st' := [.int 0]) (M' := M) (P := True) 1 rfl trivial ?_
    exact WX.zret rfl rfl (Or.inl rfl) (h1 c1)
  · refine WX.run (pc' := 174) (L' := [some (.ref 0), some (.int x1), some (.int x2)]) (st' := [.int 0, .int 0, .int x2, .ref 0]) (M' := M) (P := True) 4 rfl trivial ?_
    refine WX.callV (ca := mi_C_mark) (n := 3) (d' := 6) (st := []) (As := [.int x2, .int 0, .int 0]) (q := 0) rfl lk_10_57 ck_C_mark cv_C_mark rfl (by decide) rfl (Nat.le_of_ble_eq_true rfl) ⟨by decide, rfl, by decide⟩ (by intro w hw; simp only [List.mem_cons, List.not_mem_nil, or_false] at hw; rcases hw with rfl | rfl | rfl <;> rfl) (Nat.le_of_ble_eq_true rfl) ?_
    exact (h2 c1)
theorem sg_T_refused_0_177 {Q : Option Value → Mem → Prop} (M : Mem) (x1 x2 r : Int32)
    (h1 : ¬ r = (-1000000) → Q (some (.int 0)) M)
    (h2 : r = (-1000000) → WX mi_C_keep 2 (fun rv M' => WX mi_T_refused 27 Q 187 [some (.ref 0), some (.int x1), some (.int x2)] (rv.toList ++ []) M') 0 [some (.ref 0), some (.int x2)] [] M) :
    WX mi_T_refused 27 Q 177 [some (.ref 0), some (.int x1), some (.int x2)] [.int r] M := by
  refine WX.run (pc' := 179) (L' := [some (.ref 0), some (.int x1), some (.int x2)]) (st' := [.int (-1000000), .int r]) (M' := M) (P := True) 1 rfl trivial ?_
  refine WX.icmp_ne (off := 34) (tgt := 213) rfl rfl (fun c1 => ?_) (fun c1 => ?_)
  · refine WX.run (pc' := 214) (L' := [some (.ref 0), some (.int x1), some (.int x2)]) (st' := [.int 0]) (M' := M) (P := True) 1 rfl trivial ?_
    exact WX.zret rfl rfl (Or.inl rfl) (h1 c1)
  · refine WX.run (pc' := 184) (L' := [some (.ref 0), some (.int x1), some (.int x2)]) (st' := [.int x2, .ref 0]) (M' := M) (P := True) 2 rfl trivial ?_
    refine WX.callV (ca := mi_C_keep) (n := 1) (d' := 2) (st := []) (As := [.int x2]) (q := 0) rfl lk_10_61 ck_C_keep cv_C_keep rfl (by decide) rfl (Nat.le_of_ble_eq_true rfl) ⟨by decide, rfl, by decide⟩ (by intro w hw; simp only [List.mem_cons, List.not_mem_nil, or_false] at hw; rcases hw with rfl <;> rfl) (Nat.le_of_ble_eq_true rfl) ?_
    exact (h2 c1)
theorem sg_T_refused_0_187 {Q : Option Value → Mem → Prop} (M : Mem) (x1 x2 r : Int32)
    (h1 : ¬ r = (-1) → Q (some (.int 0)) M)
    (h2 : r = (-1) → WX mi_C_back 2 (fun rv M' => WX mi_T_refused 27 Q 196 [some (.ref 0), some (.int x1), some (.int x2)] (rv.toList ++ []) M') 0 [some (.ref 0), some (.int x2)] [] M) :
    WX mi_T_refused 27 Q 187 [some (.ref 0), some (.int x1), some (.int x2)] [.int r] M := by
  refine WX.run (pc' := 188) (L' := [some (.ref 0), some (.int x1), some (.int x2)]) (st' := [.int (-1), .int r]) (M' := M) (P := True) 1 rfl trivial ?_
  refine WX.icmp_ne (off := 25) (tgt := 213) rfl rfl (fun c1 => ?_) (fun c1 => ?_)
  · refine WX.run (pc' := 214) (L' := [some (.ref 0), some (.int x1), some (.int x2)]) (st' := [.int 0]) (M' := M) (P := True) 1 rfl trivial ?_
    exact WX.zret rfl rfl (Or.inl rfl) (h1 c1)
  · refine WX.run (pc' := 193) (L' := [some (.ref 0), some (.int x1), some (.int x2)]) (st' := [.int x2, .ref 0]) (M' := M) (P := True) 2 rfl trivial ?_
    refine WX.callV (ca := mi_C_back) (n := 1) (d' := 2) (st := []) (As := [.int x2]) (q := 0) rfl lk_10_64 ck_C_back cv_C_back rfl (by decide) rfl (Nat.le_of_ble_eq_true rfl) ⟨by decide, rfl, by decide⟩ (by intro w hw; simp only [List.mem_cons, List.not_mem_nil, or_false] at hw; rcases hw with rfl <;> rfl) (Nat.le_of_ble_eq_true rfl) ?_
    exact (h2 c1)
theorem sg_T_refused_0_196 {Q : Option Value → Mem → Prop} (M : Mem) (x1 x2 r : Int32)
    (h1 : ¬ r = (-1) → Q (some (.int 0)) M)
    (h2 : r = (-1) → ¬ (z_C_count_0 M x2) = (-1) → Q (some (.int 0)) M)
    (h3 : r = (-1) → (z_C_count_0 M x2) = (-1) → Q (some (.int 1)) M) :
    WX mi_T_refused 27 Q 196 [some (.ref 0), some (.int x1), some (.int x2)] [.int r] M := by
  refine WX.run (pc' := 197) (L' := [some (.ref 0), some (.int x1), some (.int x2)]) (st' := [.int (-1), .int r]) (M' := M) (P := True) 1 rfl trivial ?_
  refine WX.icmp_ne (off := 16) (tgt := 213) rfl rfl (fun c1 => ?_) (fun c1 => ?_)
  · refine WX.run (pc' := 214) (L' := [some (.ref 0), some (.int x1), some (.int x2)]) (st' := [.int 0]) (M' := M) (P := True) 1 rfl trivial ?_
    exact WX.zret rfl rfl (Or.inl rfl) (h1 c1)
  · refine WX.run (pc' := 202) (L' := [some (.ref 0), some (.int x1), some (.int x2)]) (st' := [.int x2, .ref 0]) (M' := M) (P := True) 2 rfl trivial ?_
    refine WX.callV (ca := mi_C_count) (n := 1) (d' := 1) (st := []) (As := [.int x2]) (q := 0) rfl lk_10_67 ck_C_count cv_C_count rfl (by decide) rfl (Nat.le_of_ble_eq_true rfl) ⟨by decide, rfl, by decide⟩ (by intro w hw; simp only [List.mem_cons, List.not_mem_nil, or_false] at hw; rcases hw with rfl <;> rfl) (Nat.le_of_ble_eq_true rfl) ?_
    refine wx_C_count_0 M x2 ?_
    show WX mi_T_refused 27 Q 205 [some (.ref 0), some (.int x1), some (.int x2)] [.int (z_C_count_0 M x2)] M
    refine WX.run (pc' := 206) (L' := [some (.ref 0), some (.int x1), some (.int x2)]) (st' := [.int (-1), .int (z_C_count_0 M x2)]) (M' := M) (P := True) 1 rfl trivial ?_
    refine WX.icmp_ne (off := 7) (tgt := 213) rfl rfl (fun c2 => ?_) (fun c2 => ?_)
    · refine WX.run (pc' := 214) (L' := [some (.ref 0), some (.int x1), some (.int x2)]) (st' := [.int 0]) (M' := M) (P := True) 1 rfl trivial ?_
      exact WX.zret rfl rfl (Or.inl rfl) (h2 c1 c2)
    · refine WX.run (pc' := 214) (L' := [some (.ref 0), some (.int x1), some (.int x2)]) (st' := [.int 1]) (M' := M) (P := True) 2 rfl trivial ?_
      exact WX.zret rfl rfl (Or.inr rfl) (h3 c1 c2)
theorem sg_T_yard_0_0 {Q : Option Value → Mem → Prop} (M : Mem)
    (h1 : WX mi_C_type 2 (fun rv M' => WX mi_T_yard 8 Q 6 [some (.ref 0)] (rv.toList ++ []) M') 0 [some (.ref 0), some (.int 119)] [] M) :
    WX mi_T_yard 8 Q 0 [some (.ref 0)] [] M := by
  refine WX.run (pc' := 3) (L' := [some (.ref 0)]) (st' := [.int 119, .ref 0]) (M' := M) (P := True) 2 rfl trivial ?_
  refine WX.callV (ca := mi_C_type) (n := 1) (d' := 2) (st := []) (As := [.int 119]) (q := 0) rfl lk_10_9 ck_C_type cv_C_type rfl (by decide) rfl (Nat.le_of_ble_eq_true rfl) ⟨by decide, rfl, by decide⟩ (by intro w hw; simp only [List.mem_cons, List.not_mem_nil, or_false] at hw; rcases hw with rfl <;> rfl) (Nat.le_of_ble_eq_true rfl) ?_
  exact h1
theorem sg_T_yard_0_6 {Q : Option Value → Mem → Prop} (M : Mem) (r : Int32)
    (h1 : r ≤ 0 → Q (some (.int 0)) M)
    (h2 : ¬ r ≤ 0 → WX mi_C_type 2 (fun rv M' => WX mi_T_yard 8 Q 15 [some (.ref 0)] (rv.toList ++ []) M') 0 [some (.ref 0), some (.int 32)] [] M) :
    WX mi_T_yard 8 Q 6 [some (.ref 0)] [.int r] M := by
  refine WX.if_le (off := 511) (tgt := 517) rfl rfl (fun c1 => ?_) (fun c1 => ?_)
  · refine WX.run (pc' := 518) (L' := [some (.ref 0)]) (st' := [.int 0]) (M' := M) (P := True) 1 rfl trivial ?_
    exact WX.zret rfl rfl (Or.inl rfl) (h1 c1)
  · refine WX.run (pc' := 12) (L' := [some (.ref 0)]) (st' := [.int 32, .ref 0]) (M' := M) (P := True) 2 rfl trivial ?_
    refine WX.callV (ca := mi_C_type) (n := 1) (d' := 2) (st := []) (As := [.int 32]) (q := 0) rfl lk_10_9 ck_C_type cv_C_type rfl (by decide) rfl (Nat.le_of_ble_eq_true rfl) ⟨by decide, rfl, by decide⟩ (by intro w hw; simp only [List.mem_cons, List.not_mem_nil, or_false] at hw; rcases hw with rfl <;> rfl) (Nat.le_of_ble_eq_true rfl) ?_
    exact (h2 c1)
theorem sg_T_yard_0_15 {Q : Option Value → Mem → Prop} (M : Mem) (r : Int32)
    (h1 : r ≤ 0 → Q (some (.int 0)) M)
    (h2 : ¬ r ≤ 0 → WX mi_C_type 2 (fun rv M' => WX mi_T_yard 8 Q 24 [some (.ref 0)] (rv.toList ++ []) M') 0 [some (.ref 0), some (.int 51)] [] M) :
    WX mi_T_yard 8 Q 15 [some (.ref 0)] [.int r] M := by
  refine WX.if_le (off := 502) (tgt := 517) rfl rfl (fun c1 => ?_) (fun c1 => ?_)
  · refine WX.run (pc' := 518) (L' := [some (.ref 0)]) (st' := [.int 0]) (M' := M) (P := True) 1 rfl trivial ?_
    exact WX.zret rfl rfl (Or.inl rfl) (h1 c1)
  · refine WX.run (pc' := 21) (L' := [some (.ref 0)]) (st' := [.int 51, .ref 0]) (M' := M) (P := True) 2 rfl trivial ?_
    refine WX.callV (ca := mi_C_type) (n := 1) (d' := 2) (st := []) (As := [.int 51]) (q := 0) rfl lk_10_9 ck_C_type cv_C_type rfl (by decide) rfl (Nat.le_of_ble_eq_true rfl) ⟨by decide, rfl, by decide⟩ (by intro w hw; simp only [List.mem_cons, List.not_mem_nil, or_false] at hw; rcases hw with rfl <;> rfl) (Nat.le_of_ble_eq_true rfl) ?_
    exact (h2 c1)
theorem sg_T_yard_0_24 {Q : Option Value → Mem → Prop} (M : Mem) (r : Int32)
    (h1 : r ≤ 0 → Q (some (.int 0)) M)
    (h2 : ¬ r ≤ 0 → WX mi_C_type 2 (fun rv M' => WX mi_T_yard 8 Q 33 [some (.ref 0)] (rv.toList ++ []) M') 0 [some (.ref 0), some (.int 59)] [] M) :
    WX mi_T_yard 8 Q 24 [some (.ref 0)] [.int r] M := by
  refine WX.if_le (off := 493) (tgt := 517) rfl rfl (fun c1 => ?_) (fun c1 => ?_)
  · refine WX.run (pc' := 518) (L' := [some (.ref 0)]) (st' := [.int 0]) (M' := M) (P := True) 1 rfl trivial ?_
    exact WX.zret rfl rfl (Or.inl rfl) (h1 c1)
  · refine WX.run (pc' := 30) (L' := [some (.ref 0)]) (st' := [.int 59, .ref 0]) (M' := M) (P := True) 2 rfl trivial ?_
    refine WX.callV (ca := mi_C_type) (n := 1) (d' := 2) (st := []) (As := [.int 59]) (q := 0) rfl lk_10_9 ck_C_type cv_C_type rfl (by decide) rfl (Nat.le_of_ble_eq_true rfl) ⟨by decide, rfl, by decide⟩ (by intro w hw; simp only [List.mem_cons, List.not_mem_nil, or_false] at hw; rcases hw with rfl <;> rfl) (Nat.le_of_ble_eq_true rfl) ?_
    exact (h2 c1)
theorem sg_T_yard_0_33 {Q : Option Value → Mem → Prop} (M : Mem) (r : Int32)
    (h1 : r ≤ 0 → Q (some (.int 0)) M)
    (h2 : ¬ r ≤ 0 → WX mi_C_type 2 (fun rv M' => WX mi_T_yard 8 Q 42 [some (.ref 0)] (rv.toList ++ []) M') 0 [some (.ref 0), some (.int 114)] [] M) :
    WX mi_T_yard 8 Q 33 [some (.ref 0)] [.int r] M := by
  refine WX.if_le (off := 484) (tgt := 517) rfl rfl (fun c1 => ?_) (fun c1 => ?_)
  · refine WX.run (pc' := 518) (L' := [some (.ref 0)]) (st' := [.int 0]) (M' := M) (P := True) 1 rfl trivial ?_
    exact WX.zret rfl rfl (Or.inl rfl) (h1 c1)
  · refine WX.run (pc' := 39) (L' := [some (.ref 0)]) (st' := [.int 114, .ref 0]) (M' := M) (P := True) 2 rfl trivial ?_
    refine WX.callV (ca := mi_C_type) (n := 1) (d' := 2) (st := []) (As := [.int 114]) (q := 0) rfl lk_10_9 ck_C_type cv_C_type rfl (by decide) rfl (Nat.le_of_ble_eq_true rfl) ⟨by decide, rfl, by decide⟩ (by intro w hw; simp only [List.mem_cons, List.not_mem_nil, or_false] at hw; rcases hw with rfl <;> rfl) (Nat.le_of_ble_eq_true rfl) ?_
    exact (h2 c1)
theorem sg_T_yard_0_42 {Q : Option Value → Mem → Prop} (M : Mem) (r : Int32)
    (h1 : r ≤ 0 → Q (some (.int 0)) M)
    (h2 : ¬ r ≤ 0 → WX mi_C_type 2 (fun rv M' => WX mi_T_yard 8 Q 51 [some (.ref 0)] (rv.toList ++ []) M') 0 [some (.ref 0), some (.int 32)] [] M) :
    WX mi_T_yard 8 Q 42 [some (.ref 0)] [.int r] M := by
  refine WX.if_le (off := 475) (tgt := 517) rfl rfl (fun c1 => ?_) (fun c1 => ?_)
  · refine WX.run (pc' := 518) (L' := [some (.ref 0)]) (st' := [.int 0]) (M' := M) (P := True) 1 rfl trivial ?_
    exact WX.zret rfl rfl (Or.inl rfl) (h1 c1)
  · refine WX.run (pc' := 48) (L' := [some (.ref 0)]) (st' := [.int 32, .ref 0]) (M' := M) (P := True) 2 rfl trivial ?_
    refine WX.callV (ca := mi_C_type) (n := 1) (d' := 2) (st := []) (As := [.int 32]) (q := 0) rfl lk_10_9 ck_C_type cv_C_type rfl (by decide) rfl (Nat.le_of_ble_eq_true rfl) ⟨by decide, rfl, by decide⟩ (by intro w hw; simp only [List.mem_cons, List.not_mem_nil, or_false] at hw; rcases hw with rfl <;> rfl) (Nat.le_of_ble_eq_true rfl) ?_
    exact (h2 c1)
theorem sg_T_yard_0_51 {Q : Option Value → Mem → Prop} (M : Mem) (r : Int32)
    (h1 : r ≤ 0 → Q (some (.int 0)) M)
    (h2 : ¬ r ≤ 0 → WX mi_C_type 2 (fun rv M' => WX mi_T_yard 8 Q 60 [some (.ref 0)] (rv.toList ++ []) M') 0 [some (.ref 0), some (.int 53)] [] M) :
    WX mi_T_yard 8 Q 51 [some (.ref 0)] [.int r] M := by
  refine WX.if_le (off := 466) (tgt := 517) rfl rfl (fun c1 => ?_) (fun c1 => ?_)
  · refine WX.run (pc' := 518) (L' := [some (.ref 0)]) (st' := [.int 0]) (M' := M) (P := True) 1 rfl trivial ?_
    exact WX.zret rfl rfl (Or.inl rfl) (h1 c1)
  · refine WX.run (pc' := 57) (L' := [some (.ref 0)]) (st' := [.int 53, .ref 0]) (M' := M) (P := True) 2 rfl trivial ?_
    refine WX.callV (ca := mi_C_type) (n := 1) (d' := 2) (st := []) (As := [.int 53]) (q := 0) rfl lk_10_9 ck_C_type cv_C_type rfl (by decide) rfl (Nat.le_of_ble_eq_true rfl) ⟨by decide, rfl, by decide⟩ (by intro w hw; simp only [List.mem_cons, List.not_mem_nil, or_false] at hw; rcases hw with rfl <;> rfl) (Nat.le_of_ble_eq_true rfl) ?_
    exact (h2 c1)
theorem sg_T_yard_0_60 {Q : Option Value → Mem → Prop} (M : Mem) (r : Int32)
    (h1 : r ≤ 0 → Q (some (.int 0)) M)
    (h2 : ¬ r ≤ 0 → WX mi_C_type 2 (fun rv M' => WX mi_T_yard 8 Q 69 [some (.ref 0)] (rv.toList ++ []) M') 0 [some (.ref 0), some (.int 32)] [] M) :
    WX mi_T_yard 8 Q 60 [some (.ref 0)] [.int r] M := by
  refine WX.if_le (off := 457) (tgt := 517) rfl rfl (fun c1 => ?_) (fun c1 => ?_)
  · refine WX.run (pc' := 518) (L' := [some (.ref 0)]) (st' := [.int 0]) (M' := M) (P := True) 1 rfl trivial ?_
    exact WX.zret rfl rfl (Or.inl rfl) (h1 c1)
  · refine WX.run (pc' := 66) (L' := [some (.ref 0)]) (st' := [.int 32, .ref 0]) (M' := M) (P := True) 2 rfl trivial ?_
    refine WX.callV (ca := mi_C_type) (n := 1) (d' := 2) (st := []) (As := [.int 32]) (q := 0) rfl lk_10_9 ck_C_type cv_C_type rfl (by decide) rfl (Nat.le_of_ble_eq_true rfl) ⟨by decide, rfl, by decide⟩ (by intro w hw; simp only [List.mem_cons, List.not_mem_nil, or_false] at hw; rcases hw with rfl <;> rfl) (Nat.le_of_ble_eq_true rfl) ?_
    exact (h2 c1)
theorem sg_T_yard_0_69 {Q : Option Value → Mem → Prop} (M : Mem) (r : Int32)
    (h1 : r ≤ 0 → Q (some (.int 0)) M)
    (h2 : ¬ r ≤ 0 → WX mi_C_type 2 (fun rv M' => WX mi_T_yard 8 Q 78 [some (.ref 0)] (rv.toList ++ []) M') 0 [some (.ref 0), some (.int 52)] [] M) :
    WX mi_T_yard 8 Q 69 [some (.ref 0)] [.int r] M := by
  refine WX.if_le (off := 448) (tgt := 517) rfl rfl (fun c1 => ?_) (fun c1 => ?_)
  · refine WX.run (pc' := 518) (L' := [some (.ref 0)]) (st' := [.int 0]) (M' := M) (P := True) 1 rfl trivial ?_
    exact WX.zret rfl rfl (Or.inl rfl) (h1 c1)
  · refine WX.run (pc' := 75) (L' := [some (.ref 0)]) (st' := [.int 52, .ref 0]) (M' := M) (P := True) 2 rfl trivial ?_
    refine WX.callV (ca := mi_C_type) (n := 1) (d' := 2) (st := []) (As := [.int 52]) (q := 0) rfl lk_10_9 ck_C_type cv_C_type rfl (by decide) rfl (Nat.le_of_ble_eq_true rfl) ⟨by decide, rfl, by decide⟩ (by intro w hw; simp only [List.mem_cons, List.not_mem_nil, or_false] at hw; rcases hw with rfl <;> rfl) (Nat.le_of_ble_eq_true rfl) ?_
    exact (h2 c1)
theorem sg_T_yard_0_78 {Q : Option Value → Mem → Prop} (M : Mem) (r : Int32)
    (h1 : r ≤ 0 → Q (some (.int 0)) M)
    (h2 : ¬ r ≤ 0 → WX mi_C_type 2 (fun rv M' => WX mi_T_yard 8 Q 87 [some (.ref 0)] (rv.toList ++ []) M') 0 [some (.ref 0), some (.int 32)] [] M) :
    WX mi_T_yard 8 Q 78 [some (.ref 0)] [.int r] M := by
  refine WX.if_le (off := 439) (tgt := 517) rfl rfl (fun c1 => ?_) (fun c1 => ?_)
  · refine WX.run (pc' := 518) (L' := [some (.ref 0)]) (st' := [.int 0]) (M' := M) (P := True) 1 rfl trivial ?_
    exact WX.zret rfl rfl (Or.inl rfl) (h1 c1)
  · refine WX.run (pc' := 84) (L' := [some (.ref 0)]) (st' := [.int 32, .ref 0]) (M' := M) (P := True) 2 rfl trivial ?_
    refine WX.callV (ca := mi_C_type) (n := 1) (d' := 2) (st := []) (As := [.int 32]) (q := 0) rfl lk_10_9 ck_C_type cv_C_type rfl (by decide) rfl (Nat.le_of_ble_eq_true rfl) ⟨by decide, rfl, by decide⟩ (by intro w hw; simp only [List.mem_cons, List.not_mem_nil, or_false] at hw; rcases hw with rfl <;> rfl) (Nat.le_of_ble_eq_true rfl) ?_
    exact (h2 c1)
theorem sg_T_yard_0_87 {Q : Option Value → Mem → Prop} (M : Mem) (r : Int32)
    (h1 : r ≤ 0 → Q (some (.int 0)) M)
    (h2 : ¬ r ≤ 0 → WX mi_C_type 2 (fun rv M' => WX mi_T_yard 8 Q 96 [some (.ref 0)] (rv.toList ++ []) M') 0 [some (.ref 0), some (.int 51)] [] M) :
    WX mi_T_yard 8 Q 87 [some (.ref 0)] [.int r] M := by
  refine WX.if_le (off := 430) (tgt := 517) rfl rfl (fun c1 => ?_) (fun c1 => ?_)
  · refine WX.run (pc' := 518) (L' := [some (.ref 0)]) (st' := [.int 0]) (M' := M) (P := True) 1 rfl trivial ?_
    exact WX.zret rfl rfl (Or.inl rfl) (h1 c1)
  · refine WX.run (pc' := 93) (L' := [some (.ref 0)]) (st' := [.int 51, .ref 0]) (M' := M) (P := True) 2 rfl trivial ?_
    refine WX.callV (ca := mi_C_type) (n := 1) (d' := 2) (st := []) (As := [.int 51]) (q := 0) rfl lk_10_9 ck_C_type cv_C_type rfl (by decide) rfl (Nat.le_of_ble_eq_true rfl) ⟨by decide, rfl, by decide⟩ (by intro w hw; simp only [List.mem_cons, List.not_mem_nil, or_false] at hw; rcases hw with rfl <;> rfl) (Nat.le_of_ble_eq_true rfl) ?_
    exact (h2 c1)
theorem sg_T_yard_0_96 {Q : Option Value → Mem → Prop} (M : Mem) (r : Int32)
    (h1 : r ≤ 0 → Q (some (.int 0)) M)
    (h2 : ¬ r ≤ 0 → WX mi_C_type 2 (fun rv M' => WX mi_T_yard 8 Q 105 [some (.ref 0)] (rv.toList ++ []) M') 0 [some (.ref 0), some (.int 59)] [] M) :
    WX mi_T_yard 8 Q 96 [some (.ref 0)] [.int r] M := by
  refine WX.if_le (off := 421) (tgt := 517) rfl rfl (fun c1 => ?_) (fun c1 => ?_)
  · refine WX.run (pc' := 518) (L' := [some (.ref 0)]) (st' := [.int 0]) (M' := M) (P := True) 1 rfl trivial ?_
    exact WX.zret rfl rfl (Or.inl rfl) (h1 c1)
  · refine WX.run (pc' := 102) (L' := [some (.ref 0)]) (st' := [.int 59, .ref 0]) (M' := M) (P := True) 2 rfl trivial ?_
    refine WX.callV (ca := mi_C_type) (n := 1) (d' := 2) (st := []) (As := [.int 59]) (q := 0) rfl lk_10_9 ck_C_type cv_C_type rfl (by decide) rfl (Nat.le_of_ble_eq_true rfl) ⟨by decide, rfl, by decide⟩ (by intro w hw; simp only [List.mem_cons, List.not_mem_nil, or_false] at hw; rcases hw with rfl <;> rfl) (Nat.le_of_ble_eq_true rfl) ?_
    exact (h2 c1)
theorem sg_T_yard_0_105 {Q : Option Value → Mem → Prop} (M : Mem) (r : Int32)
    (h1 : r ≤ 0 → Q (some (.int 0)) M)
    (h2 : ¬ r ≤ 0 → WX mi_C_type 2 (fun rv M' => WX mi_T_yard 8 Q 114 [some (.ref 0)] (rv.toList ++ []) M') 0 [some (.ref 0), some (.int 114)] [] M) :
    WX mi_T_yard 8 Q 105 [some (.ref 0)] [.int r] M := by
  refine WX.if_le (off := 412) (tgt := 517) rfl rfl (fun c1 => ?_) (fun c1 => ?_)
  · refine WX.run (pc' := 518) (L' := [some (.ref 0)]) (st' := [.int 0]) (M' := M) (P := True) 1 rfl trivial ?_
    exact WX.zret rfl rfl (Or.inl rfl) (h1 c1)
  · refine WX.run (pc' := 111) (L' := [some (.ref 0)]) (st' := [.int 114, .ref 0]) (M' := M) (P := True) 2 rfl trivial ?_
    refine WX.callV (ca := mi_C_type) (n := 1) (d' := 2) (st := []) (As := [.int 114]) (q := 0) rfl lk_10_9 ck_C_type cv_C_type rfl (by decide) rfl (Nat.le_of_ble_eq_true rfl) ⟨by decide, rfl, by decide⟩ (by intro w hw; simp only [List.mem_cons, List.not_mem_nil, or_false] at hw; rcases hw with rfl <;> rfl) (Nat.le_of_ble_eq_true rfl) ?_
    exact (h2 c1)
theorem sg_T_yard_0_114 {Q : Option Value → Mem → Prop} (M : Mem) (r : Int32)
    (h1 : r ≤ 0 → Q (some (.int 0)) M)
    (h2 : ¬ r ≤ 0 → WX mi_C_type 2 (fun rv M' => WX mi_T_yard 8 Q 123 [some (.ref 0)] (rv.toList ++ []) M') 0 [some (.ref 0), some (.int 32)] [] M) :
    WX mi_T_yard 8 Q 114 [some (.ref 0)] [.int r] M := by
  refine WX.if_le (off := 403) (tgt := 517) rfl rfl (fun c1 => ?_) (fun c1 => ?_)
  · refine WX.run (pc' := 518) (L' := [some (.ref 0)]) (st' := [.int 0]) (M' := M) (P := True) 1 rfl trivial ?_
    exact WX.zret rfl rfl (Or.inl rfl) (h1 c1)
  · refine WX.run (pc' := 120) (L' := [some (.ref 0)]) (st' := [.int 32, .ref 0]) (M' := M) (P := True) 2 rfl trivial ?_
    refine WX.callV (ca := mi_C_type) (n := 1) (d' := 2) (st := []) (As := [.int 32]) (q := 0) rfl lk_10_9 ck_C_type cv_C_type rfl (by decide) rfl (Nat.le_of_ble_eq_true rfl) ⟨by decide, rfl, by decide⟩ (by intro w hw; simp only [List.mem_cons, List.not_mem_nil, or_false] at hw; rcases hw with rfl <;> rfl) (Nat.le_of_ble_eq_true rfl) ?_
    exact (h2 c1)
theorem sg_T_yard_0_123 {Q : Option Value → Mem → Prop} (M : Mem) (r : Int32)
    (h1 : r ≤ 0 → Q (some (.int 0)) M)
    (h2 : ¬ r ≤ 0 → WX mi_C_type 2 (fun rv M' => WX mi_T_yard 8 Q 132 [some (.ref 0)] (rv.toList ++ []) M') 0 [some (.ref 0), some (.int 54)] [] M) :
    WX mi_T_yard 8 Q 123 [some (.ref 0)] [.int r] M := by
  refine WX.if_le (off := 394) (tgt := 517) rfl rfl (fun c1 => ?_) (fun c1 => ?_)
  · refine WX.run (pc' := 518) (L' := [some (.ref 0)]) (st' := [.int 0]) (M' := M) (P := True) 1 rfl trivial ?_
    exact WX.zret rfl rfl (Or.inl rfl) (h1 c1)
  · refine WX.run (pc' := 129) (L' := [some (.ref 0)]) (st' := [.int 54, .ref 0]) (M' := M) (P := True) 2 rfl trivial ?_
    refine WX.callV (ca := mi_C_type) (n := 1) (d' := 2) (st := []) (As := [.int 54]) (q := 0) rfl lk_10_9 ck_C_type cv_C_type rfl (by decide) rfl (Nat.le_of_ble_eq_true rfl) ⟨by decide, rfl, by decide⟩ (by intro w hw; simp only [List.mem_cons, List.not_mem_nil, or_false] at hw; rcases hw with rfl <;> rfl) (Nat.le_of_ble_eq_true rfl) ?_
    exact (h2 c1)
theorem sg_T_yard_0_132 {Q : Option Value → Mem → Prop} (M : Mem) (r : Int32)
    (h1 : r ≤ 0 → Q (some (.int 0)) M)
    (h2 : ¬ r ≤ 0 → WX mi_C_type 2 (fun rv M' => WX mi_T_yard 8 Q 141 [some (.ref 0)] (rv.toList ++ []) M') 0 [some (.ref 0), some (.int 32)] [] M) :
    WX mi_T_yard 8 Q 132 [some (.ref 0)] [.int r] M := by
  refine WX.if_le (off := 385) (tgt := 517) rfl rfl (fun c1 => ?_) (fun c1 => ?_)
  · refine WX.run (pc' := 518) (L' := [some (.ref 0)]) (st' := [.int 0]) (M' := M) (P := True) 1 rfl trivial ?_
    exact WX.zret rfl rfl (Or.inl rfl) (h1 c1)
  · refine WX.run (pc' := 138) (L' := [some (.ref 0)]) (st' := [.int 32, .ref 0]) (M' := M) (P := True) 2 rfl trivial ?_
    refine WX.callV (ca := mi_C_type) (n := 1) (d' := 2) (st := []) (As := [.int 32]) (q := 0) rfl lk_10_9 ck_C_type cv_C_type rfl (by decide) rfl (Nat.le_of_ble_eq_true rfl) ⟨by decide, rfl, by decide⟩ (by intro w hw; simp only [List.mem_cons, List.not_mem_nil, or_false] at hw; rcases hw with rfl <;> rfl) (Nat.le_of_ble_eq_true rfl) ?_
    exact (h2 c1)
theorem sg_T_yard_0_141 {Q : Option Value → Mem → Prop} (M : Mem) (r : Int32)
    (h1 : r ≤ 0 → Q (some (.int 0)) M)
    (h2 : ¬ r ≤ 0 → WX mi_C_type 2 (fun rv M' => WX mi_T_yard 8 Q 150 [some (.ref 0)] (rv.toList ++ []) M') 0 [some (.ref 0), some (.int 50)] [] M) :
    WX mi_T_yard 8 Q 141 [some (.ref 0)] [.int r] M := by
  refine WX.if_le (off := 376) (tgt := 517) rfl rfl (fun c1 => ?_) (fun c1 => ?_)
  · refine WX.run (pc' := 518) (L' := [some (.ref 0)]) (st' := [.int 0]) (M' := M) (P := True) 1 rfl trivial ?_
    exact WX.zret rfl rfl (Or.inl rfl) (h1 c1)
  · refine WX.run (pc' := 147) (L' := [some (.ref 0)]) (st' := [.int 50, .ref 0]) (M' := M) (P := True) 2 rfl trivial ?_
    refine WX.callV (ca := mi_C_type) (n := 1) (d' := 2) (st := []) (As := [.int 50]) (q := 0) rfl lk_10_9 ck_C_type cv_C_type rfl (by decide) rfl (Nat.le_of_ble_eq_true rfl) ⟨by decide, rfl, by decide⟩ (by intro w hw; simp only [List.mem_cons, List.not_mem_nil, or_false] at hw; rcases hw with rfl <;> rfl) (Nat.le_of_ble_eq_true rfl) ?_
    exact (h2 c1)
theorem sg_T_yard_0_150 {Q : Option Value → Mem → Prop} (M : Mem) (r : Int32)
    (h1 : r ≤ 0 → Q (some (.int 0)) M)
    (h2 : ¬ r ≤ 0 → WX mi_C_type 2 (fun rv M' => WX mi_T_yard 8 Q 159 [some (.ref 0)] (rv.toList ++ []) M') 0 [some (.ref 0), some (.int 32)] [] M) :
    WX mi_T_yard 8 Q 150 [some (.ref 0)] [.int r] M := by
  refine WX.if_le (off := 367) (tgt := 517) rfl rfl (fun c1 => ?_) (fun c1 => ?_)
  · refine WX.run (pc' := 518) (L' := [some (.ref 0)]) (st' := [.int 0]) (M' := M) (P := True) 1 rfl trivial ?_
    exact WX.zret rfl rfl (Or.inl rfl) (h1 c1)
  · refine WX.run (pc' := 156) (L' := [some (.ref 0)]) (st' := [.int 32, .ref 0]) (M' := M) (P := True) 2 rfl trivial ?_
    refine WX.callV (ca := mi_C_type) (n := 1) (d' := 2) (st := []) (As := [.int 32]) (q := 0) rfl lk_10_9 ck_C_type cv_C_type rfl (by decide) rfl (Nat.le_of_ble_eq_true rfl) ⟨by decide, rfl, by decide⟩ (by intro w hw; simp only [List.mem_cons, List.not_mem_nil, or_false] at hw; rcases hw with rfl <;> rfl) (Nat.le_of_ble_eq_true rfl) ?_
    exact (h2 c1)
theorem sg_T_yard_0_159 {Q : Option Value → Mem → Prop} (M : Mem) (r : Int32)
    (h1 : r ≤ 0 → Q (some (.int 0)) M)
    (h2 : ¬ r ≤ 0 → WX mi_C_type 2 (fun rv M' => WX mi_T_yard 8 Q 168 [some (.ref 0)] (rv.toList ++ []) M') 0 [some (.ref 0), some (.int 49)] [] M) :
    WX mi_T_yard 8 Q 159 [some (.ref 0)] [.int r] M := by
  refine WX.if_le (off := 358) (tgt := 517) rfl rfl (fun c1 => ?_) (fun c1 => ?_)
  · refine WX.run (pc' := 518) (L' := [some (.ref 0)]) (st' := [.int 0]) (M' := M) (P := True) 1 rfl trivial ?_
    exact WX.zret rfl rfl (Or.inl rfl) (h1 c1)
  · refine WX.run (pc' := 165) (L' := [some (.ref 0)]) (st' := [.int 49, .ref 0]) (M' := M) (P := True) 2 rfl trivial ?_
    refine WX.callV (ca := mi_C_type) (n := 1) (d' := 2) (st := []) (As := [.int 49]) (q := 0) rfl lk_10_9 ck_C_type cv_C_type rfl (by decide) rfl (Nat.le_of_ble_eq_true rfl) ⟨by decide, rfl, by decide⟩ (by intro w hw; simp only [List.mem_cons, List.not_mem_nil, or_false] at hw; rcases hw with rfl <;> rfl) (Nat.le_of_ble_eq_true rfl) ?_
    exact (h2 c1)
theorem sg_T_yard_0_168 {Q : Option Value → Mem → Prop} (M : Mem) (r : Int32)
    (h1 : r ≤ 0 → Q (some (.int 0)) M)
    (h2 : ¬ r ≤ 0 → WX mi_C_type 2 (fun rv M' => WX mi_T_yard 8 Q 177 [some (.ref 0)] (rv.toList ++ []) M') 0 [some (.ref 0), some (.int 59)] [] M) :
    WX mi_T_yard 8 Q 168 [some (.ref 0)] [.int r] M := by
  refine WX.if_le (off := 349) (tgt := 517) rfl rfl (fun c1 => ?_) (fun c1 => ?_)
  · refine WX.run (pc' := 518) (L' := [some (.ref 0)]) (st' := [.int 0]) (M' := M) (P := True) 1 rfl trivial ?_
    exact WX.zret rfl rfl (Or.inl rfl) (h1 c1)
  · refine WX.run (pc' := 174) (L' := [some (.ref 0)]) (st' := [.int 59, .ref 0]) (M' := M) (P := True) 2 rfl trivial ?_
    refine WX.callV (ca := mi_C_type) (n := 1) (d' := 2) (st := []) (As := [.int 59]) (q := 0) rfl lk_10_9 ck_C_type cv_C_type rfl (by decide) rfl (Nat.le_of_ble_eq_true rfl) ⟨by decide, rfl, by decide⟩ (by intro w hw; simp only [List.mem_cons, List.not_mem_nil, or_false] at hw; rcases hw with rfl <;> rfl) (Nat.le_of_ble_eq_true rfl) ?_
    exact (h2 c1)
theorem sg_T_yard_0_177 {Q : Option Value → Mem → Prop} (M : Mem) (r : Int32)
    (h1 : r ≤ 0 → Q (some (.int 0)) M)
    (h2 : ¬ r ≤ 0 → WX mi_C_type 2 (fun rv M' => WX mi_T_yard 8 Q 186 [some (.ref 0)] (rv.toList ++ []) M') 0 [some (.ref 0), some (.int 114)] [] M) :
    WX mi_T_yard 8 Q 177 [some (.ref 0)] [.int r] M := by
  refine WX.if_le (off := 340) (tgt := 517) rfl rfl (fun c1 => ?_) (fun c1 => ?_)
  · refine WX.run (pc' := 518) (L' := [some (.ref 0)]) (st' := [.int 0]) (M' := M) (P := True) 1 rfl trivial ?_
    exact WX.zret rfl rfl (Or.inl rfl) (h1 c1)
  · refine WX.run (pc' := 183) (L' := [some (.ref 0)]) (st' := [.int 114, .ref 0]) (M' := M) (P := True) 2 rfl trivial ?_
    refine WX.callV (ca := mi_C_type) (n := 1) (d' := 2) (st := []) (As := [.int 114]) (q := 0) rfl lk_10_9 ck_C_type cv_C_type rfl (by decide) rfl (Nat.le_of_ble_eq_true rfl) ⟨by decide, rfl, by decide⟩ (by intro w hw; simp only [List.mem_cons, List.not_mem_nil, or_false] at hw; rcases hw with rfl <;> rfl) (Nat.le_of_ble_eq_true rfl) ?_
    exact (h2 c1)
theorem sg_T_yard_0_186 {Q : Option Value → Mem → Prop} (M : Mem) (r : Int32)
    (h1 : r ≤ 0 → Q (some (.int 0)) M)
    (h2 : ¬ r ≤ 0 → WX mi_C_type 2 (fun rv M' => WX mi_T_yard 8 Q 195 [some (.ref 0)] (rv.toList ++ []) M') 0 [some (.ref 0), some (.int 32)] [] M) :
    WX mi_T_yard 8 Q 186 [some (.ref 0)] [.int r] M := by
  refine WX.if_le (off := 331) (tgt := 517) rfl rfl (fun c1 => ?_) (fun c1 => ?_)
  · refine WX.run (pc' := 518) (L' := [some (.ref 0)]) (st' := [.int 0]) (M' := M) (P := True) 1 rfl trivial ?_
    exact WX.zret rfl rfl (Or.inl rfl) (h1 c1)
  · refine WX.run (pc' := 192) (L' := [some (.ref 0)]) (st' := [.int 32, .ref 0]) (M' := M) (P := True) 2 rfl trivial ?_
    refine WX.callV (ca := mi_C_type) (n := 1) (d' := 2) (st := []) (As := [.int 32]) (q := 0) rfl lk_10_9 ck_C_type cv_C_type rfl (by decide) rfl (Nat.le_of_ble_eq_true rfl) ⟨by decide, rfl, by decide⟩ (by intro w hw; simp only [List.mem_cons, List.not_mem_nil, or_false] at hw; rcases hw with rfl <;> rfl) (Nat.le_of_ble_eq_true rfl) ?_
    exact (h2 c1)
theorem sg_T_yard_0_195 {Q : Option Value → Mem → Prop} (M : Mem) (r : Int32)
    (h1 : r ≤ 0 → Q (some (.int 0)) M)
    (h2 : ¬ r ≤ 0 → WX mi_C_type 2 (fun rv M' => WX mi_T_yard 8 Q 204 [some (.ref 0)] (rv.toList ++ []) M') 0 [some (.ref 0), some (.int 52)] [] M) :
    WX mi_T_yard 8 Q 195 [some (.ref 0)] [.int r] M := by
  refine WX.if_le (off := 322) (tgt := 517) rfl rfl (fun c1 => ?_) (fun c1 => ?_)
  · refine WX.run (pc' := 518) (L' := [some (.ref 0)]) (st' := [.int 0]) (M' := M) (P := True) 1 rfl trivial ?_
    exact WX.zret rfl rfl (Or.inl rfl) (h1 c1)
  · refine WX.run (pc' := 201) (L' := [some (.ref 0)]) (st' := [.int 52, .ref 0]) (M' := M) (P := True) 2 rfl trivial ?_
    refine WX.callV (ca := mi_C_type) (n := 1) (d' := 2) (st := []) (As := [.int 52]) (q := 0) rfl lk_10_9 ck_C_type cv_C_type rfl (by decide) rfl (Nat.le_of_ble_eq_true rfl) ⟨by decide, rfl, by decide⟩ (by intro w hw; simp only [List.mem_cons, List.not_mem_nil, or_false] at hw; rcases hw with rfl <;> rfl) (Nat.le_of_ble_eq_true rfl) ?_
    exact (h2 c1)
theorem sg_T_yard_0_204 {Q : Option Value → Mem → Prop} (M : Mem) (r : Int32)
    (h1 : r ≤ 0 → Q (some (.int 0)) M)
    (h2 : ¬ r ≤ 0 → WX mi_C_type 2 (fun rv M' => WX mi_T_yard 8 Q 213 [some (.ref 0)] (rv.toList ++ []) M') 0 [some (.ref 0), some (.int 32)] [] M) :
    WX mi_T_yard 8 Q 204 [some (.ref 0)] [.int r] M := by
  refine WX.if_le (off := 313) (tgt := 517) rfl rfl (fun c1 => ?_) (fun c1 => ?_)
  · refine WX.run (pc' := 518) (L' := [some (.ref 0)]) (st' := [.int 0]) (M' := M) (P := True) 1 rfl trivial ?_
    exact WX.zret rfl rfl (Or.inl rfl) (h1 c1)
  · refine WX.run (pc' := 210) (L' := [some (.ref 0)]) (st' := [.int 32, .ref 0]) (M' := M) (P := True) 2 rfl trivial ?_
    refine WX.callV (ca := mi_C_type) (n := 1) (d' := 2) (st := []) (As := [.int 32]) (q := 0) rfl lk_10_9 ck_C_type cv_C_type rfl (by decide) rfl (Nat.le_of_ble_eq_true rfl) ⟨by decide, rfl, by decide⟩ (by intro w hw; simp only [List.mem_cons, List.not_mem_nil, or_false] at hw; rcases hw with rfl <;> rfl) (Nat.le_of_ble_eq_true rfl) ?_
    exact (h2 c1)
theorem sg_T_yard_0_213 {Q : Option Value → Mem → Prop} (M : Mem) (r : Int32)
    (h1 : r ≤ 0 → Q (some (.int 0)) M)
    (h2 : ¬ r ≤ 0 → WX mi_C_type 2 (fun rv M' => WX mi_T_yard 8 Q 222 [some (.ref 0)] (rv.toList ++ []) M') 0 [some (.ref 0), some (.int 57)] [] M) :
    WX mi_T_yard 8 Q 213 [some (.ref 0)] [.int r] M := by
  refine WX.if_le (off := 304) (tgt := 517) rfl rfl (fun c1 => ?_) (fun c1 => ?_)
  · refine WX.run (pc' := 518) (L' := [some (.ref 0)]) (st' := [.int 0]) (M' := M) (P := True) 1 rfl trivial ?_
    exact WX.zret rfl rfl (Or.inl rfl) (h1 c1)
  · refine WX.run (pc' := 219) (L' := [some (.ref 0)]) (st' := [.int 57, .ref 0]) (M' := M) (P := True) 2 rfl trivial ?_
    refine WX.callV (ca := mi_C_type) (n := 1) (d' := 2) (st := []) (As := [.int 57]) (q := 0) rfl lk_10_9 ck_C_type cv_C_type rfl (by decide) rfl (Nat.le_of_ble_eq_true rfl) ⟨by decide, rfl, by decide⟩ (by intro w hw; simp only [List.mem_cons, List.not_mem_nil, or_false] at hw; rcases hw with rfl <;> rfl) (Nat.le_of_ble_eq_true rfl) ?_
    exact (h2 c1)
theorem sg_T_yard_0_222 {Q : Option Value → Mem → Prop} (M : Mem) (r : Int32)
    (h1 : r ≤ 0 → Q (some (.int 0)) M)
    (h2 : ¬ r ≤ 0 → WX mi_C_type 2 (fun rv M' => WX mi_T_yard 8 Q 231 [some (.ref 0)] (rv.toList ++ []) M') 0 [some (.ref 0), some (.int 32)] [] M) :
    WX mi_T_yard 8 Q 222 [some (.ref 0)] [.int r] M := by
  refine WX.if_le (off := 295) (tgt := 517) rfl rfl (fun c1 => ?_) (fun c1 => ?_)
  · refine WX.run (pc' := 518) (L' := [some (.ref 0)]) (st' := [.int 0]) (M' := M) (P := True) 1 rfl trivial ?_
    exact WX.zret rfl rfl (Or.inl rfl) (h1 c1)
  · refine WX.run (pc' := 228) (L' := [some (.ref 0)]) (st' := [.int 32, .ref 0]) (M' := M) (P := True) 2 rfl trivial ?_
    refine WX.callV (ca := mi_C_type) (n := 1) (d' := 2) (st := []) (As := [.int 32]) (q := 0) rfl lk_10_9 ck_C_type cv_C_type rfl (by decide) rfl (Nat.le_of_ble_eq_true rfl) ⟨by decide, rfl, by decide⟩ (by intro w hw; simp only [List.mem_cons, List.not_mem_nil, or_false] at hw; rcases hw with rfl <;> rfl) (Nat.le_of_ble_eq_true rfl) ?_
    exact (h2 c1)
theorem sg_T_yard_0_231 {Q : Option Value → Mem → Prop} (M : Mem) (r : Int32)
    (h1 : r ≤ 0 → Q (some (.int 0)) M)
    (h2 : ¬ r ≤ 0 → WX mi_C_type 2 (fun rv M' => WX mi_T_yard 8 Q 240 [some (.ref 0)] (rv.toList ++ []) M') 0 [some (.ref 0), some (.int 48)] [] M) :
    WX mi_T_yard 8 Q 231 [some (.ref 0)] [.int r] M := by
  refine WX.if_le (off := 286) (tgt := 517) rfl rfl (fun c1 => ?_) (fun c1 => ?_)
  · refine WX.run (pc' := 518) (L' := [some (.ref 0)]) (st' := [.int 0]) (M' := M) (P := True) 1 rfl trivial ?_
    exact WX.zret rfl rfl (Or.inl rfl) (h1 c1)
  · refine WX.run (pc' := 237) (L' := [some (.ref 0)]) (st' := [.int 48, .ref 0]) (M' := M) (P := True) 2 rfl trivial ?_
    refine WX.callV (ca := mi_C_type) (n := 1) (d' := 2) (st := []) (As := [.int 48]) (q := 0) rfl lk_10_9 ck_C_type cv_C_type rfl (by decide) rfl (Nat.le_of_ble_eq_true rfl) ⟨by decide, rfl, by decide⟩ (by intro w hw; simp only [List.mem_cons, List.not_mem_nil, or_false] at hw; rcases hw with rfl <;> rfl) (Nat.le_of_ble_eq_true rfl) ?_
    exact (h2 c1)
theorem sg_T_yard_0_240 {Q : Option Value → Mem → Prop} (M : Mem) (r : Int32)
    (h1 : r ≤ 0 → Q (some (.int 0)) M)
    (h2 : ¬ r ≤ 0 → WX mi_C_type 2 (fun rv M' => WX mi_T_yard 8 Q 249 [some (.ref 0)] (rv.toList ++ []) M') 0 [some (.ref 0), some (.int 59)] [] M) :
    WX mi_T_yard 8 Q 240 [some (.ref 0)] [.int r] M := by
  refine WX.if_le (off := 277) (tgt := 517) rfl rfl (fun c1 => ?_) (fun c1 => ?_)
  · refine WX.run (pc' := 518) (L' := [some (.ref 0)]) (st' := [.int 0]) (M' := M) (P := True) 1 rfl trivial ?_
    exact WX.zret rfl rfl (Or.inl rfl) (h1 c1)
  · refine WX.run (pc' := 246) (L' := [some (.ref 0)]) (st' := [.int 59, .ref 0]) (M' := M) (P := True) 2 rfl trivial ?_
    refine WX.callV (ca := mi_C_type) (n := 1) (d' := 2) (st := []) (As := [.int 59]) (q := 0) rfl lk_10_9 ck_C_type cv_C_type rfl (by decide) rfl (Nat.le_of_ble_eq_true rfl) ⟨by decide, rfl, by decide⟩ (by intro w hw; simp only [List.mem_cons, List.not_mem_nil, or_false] at hw; rcases hw with rfl <;> rfl) (Nat.le_of_ble_eq_true rfl) ?_
    exact (h2 c1)
theorem sg_T_yard_0_249 {Q : Option Value → Mem → Prop} (M : Mem) (r : Int32)
    (h1 : r ≤ 0 → Q (some (.int 0)) M)
    (h2 : ¬ r ≤ 0 → WX mi_C_type 2 (fun rv M' => WX mi_T_yard 8 Q 258 [some (.ref 0)] (rv.toList ++ []) M') 0 [some (.ref 0), some (.int 108)] [] M) :
    WX mi_T_yard 8 Q 249 [some (.ref 0)] [.int r] M := by
  refine WX.if_le (off := 268) (tgt := 517) rfl rfl (fun c1 => ?_) (fun c1 => ?_)
  · refine WX.run (pc' := 518) (L' := [some (.ref 0)]) (st' := [.int 0]) (M' := M) (P := True) 1 rfl trivial ?_
    exact WX.zret rfl rfl (Or.inl rfl) (h1 c1)
  · refine WX.run (pc' := 255) (L' := [some (.ref 0)]) (st' := [.int 108, .ref 0]) (M' := M) (P := True) 2 rfl trivial ?_
    refine WX.callV (ca := mi_C_type) (n := 1) (d' := 2) (st := []) (As := [.int 108]) (q := 0) rfl lk_10_9 ck_C_type cv_C_type rfl (by decide) rfl (Nat.le_of_ble_eq_true rfl) ⟨by decide, rfl, by decide⟩ (by intro w hw; simp only [List.mem_cons, List.not_mem_nil, or_false] at hw; rcases hw with rfl <;> rfl) (Nat.le_of_ble_eq_true rfl) ?_
    exact (h2 c1)
theorem sg_T_yard_0_258 {Q : Option Value → Mem → Prop} (M : Mem) (r : Int32)
    (h1 : r ≤ 0 → Q (some (.int 0)) M)
    (h2 : ¬ r ≤ 0 → WX mi_C_type 2 (fun rv M' => WX mi_T_yard 8 Q 267 [some (.ref 0)] (rv.toList ++ []) M') 0 [some (.ref 0), some (.int 32)] [] M) :
    WX mi_T_yard 8 Q 258 [some (.ref 0)] [.int r] M := by
  refine WX.if_le (off := 259) (tgt := 517) rfl rfl (fun c1 => ?_) (fun c1 => ?_)
  · refine WX.run (pc' := 518) (L' := [some (.ref 0)]) (st' := [.int 0]) (M' := M) (P := True) 1 rfl trivial ?_
    exact WX.zret rfl rfl (Or.inl rfl) (h1 c1)
  · refine WX.run (pc' := 264) (L' := [some (.ref 0)]) (st' := [.int 32, .ref 0]) (M' := M) (P := True) 2 rfl trivial ?_
    refine WX.callV (ca := mi_C_type) (n := 1) (d' := 2) (st := []) (As := [.int 32]) (q := 0) rfl lk_10_9 ck_C_type cv_C_type rfl (by decide) rfl (Nat.le_of_ble_eq_true rfl) ⟨by decide, rfl, by decide⟩ (by intro w hw; simp only [List.mem_cons, List.not_mem_nil, or_false] at hw; rcases hw with rfl <;> rfl) (Nat.le_of_ble_eq_true rfl) ?_
    exact (h2 c1)
theorem sg_T_yard_0_267 {Q : Option Value → Mem → Prop} (M : Mem) (r : Int32)
    (h1 : r ≤ 0 → Q (some (.int 0)) M)
    (h2 : ¬ r ≤ 0 → WX mi_C_type 2 (fun rv M' => WX mi_T_yard 8 Q 276 [some (.ref 0)] (rv.toList ++ []) M') 0 [some (.ref 0), some (.int 49)] [] M) :
    WX mi_T_yard 8 Q 267 [some (.ref 0)] [.int r] M := by
  refine WX.if_le (off := 250) (tgt := 517) rfl rfl (fun c1 => ?_) (fun c1 => ?_)
  · refine WX.run (pc' := 518) (L' := [some (.ref 0)]) (st' := [.int 0]) (M' := M) (P := True) 1 rfl trivial ?_
    exact WX.zret rfl rfl (Or.inl rfl) (h1 c1)
  · refine WX.run (pc' := 273) (L' := [some (.ref 0)]) (st' := [.int 49, .ref 0]) (M' := M) (P := True) 2 rfl trivial ?_
    refine WX.callV (ca := mi_C_type) (n := 1) (d' := 2) (st := []) (As := [.int 49]) (q := 0) rfl lk_10_9 ck_C_type cv_C_type rfl (by decide) rfl (Nat.le_of_ble_eq_true rfl) ⟨by decide, rfl, by decide⟩ (by intro w hw; simp only [List.mem_cons, List.not_mem_nil, or_false] at hw; rcases hw with rfl <;> rfl) (Nat.le_of_ble_eq_true rfl) ?_
    exact (h2 c1)
theorem sg_T_yard_0_276 {Q : Option Value → Mem → Prop} (M : Mem) (r : Int32)
    (h1 : r ≤ 0 → Q (some (.int 0)) M)
    (h2 : ¬ r ≤ 0 → WX mi_C_type 2 (fun rv M' => WX mi_T_yard 8 Q 285 [some (.ref 0)] (rv.toList ++ []) M') 0 [some (.ref 0), some (.int 32)] [] M) :
    WX mi_T_yard 8 Q 276 [some (.ref 0)] [.int r] M := by
  refine WX.if_le (off := 241) (tgt := 517) rfl rfl (fun c1 => ?_) (fun c1 => ?_)
  · refine WX.run (pc' := 518) (L' := [some (.ref 0)]) (st' := [.int 0]) (M' := M) (P := True) 1 rfl trivial ?_
    exact WX.zret rfl rfl (Or.inl rfl) (h1 c1)
  · refine WX.run (pc' := 282) (L' := [some (.ref 0)]) (st' := [.int 32, .ref 0]) (M' := M) (P := True) 2 rfl trivial ?_
    refine WX.callV (ca := mi_C_type) (n := 1) (d' := 2) (st := []) (As := [.int 32]) (q := 0) rfl lk_10_9 ck_C_type cv_C_type rfl (by decide) rfl (Nat.le_of_ble_eq_true rfl) ⟨by decide, rfl, by decide⟩ (by intro w hw; simp only [List.mem_cons, List.not_mem_nil, or_false] at hw; rcases hw with rfl <;> rfl) (Nat.le_of_ble_eq_true rfl) ?_
    exact (h2 c1)
theorem sg_T_yard_0_285 {Q : Option Value → Mem → Prop} (M : Mem) (r : Int32)
    (h1 : r ≤ 0 → Q (some (.int 0)) M)
    (h2 : ¬ r ≤ 0 → WX mi_C_type 2 (fun rv M' => WX mi_T_yard 8 Q 294 [some (.ref 0)] (rv.toList ++ []) M') 0 [some (.ref 0), some (.int 49)] [] M) :
    WX mi_T_yard 8 Q 285 [some (.ref 0)] [.int r] M := by
  refine WX.if_le (off := 232) (tgt := 517) rfl rfl (fun c1 => ?_) (fun c1 => ?_)
  · refine WX.run (pc' := 518) (L' := [some (.ref 0)]) (st' := [.int 0]) (M' := M) (P := True) 1 rfl trivial ?_
    exact WX.zret rfl rfl (Or.inl rfl) (h1 c1)
  · refine WX.run (pc' := 291) (L' := [some (.ref 0)]) (st' := [.int 49, .ref 0]) (M' := M) (P := True) 2 rfl trivial ?_
    refine WX.callV (ca := mi_C_type) (n := 1) (d' := 2) (st := []) (As := [.int 49]) (q := 0) rfl lk_10_9 ck_C_type cv_C_type rfl (by decide) rfl (Nat.le_of_ble_eq_true rfl) ⟨by decide, rfl, by decide⟩ (by intro w hw; simp only [List.mem_cons, List.not_mem_nil, or_false] at hw; rcases hw with rfl <;> rfl) (Nat.le_of_ble_eq_true rfl) ?_
    exact (h2 c1)
theorem sg_T_yard_0_294 {Q : Option Value → Mem → Prop} (M : Mem) (r : Int32)
    (h1 : r ≤ 0 → Q (some (.int 0)) M)
    (h2 : ¬ r ≤ 0 → WX mi_C_type 2 (fun rv M' => WX mi_T_yard 8 Q 303 [some (.ref 0)] (rv.toList ++ []) M') 0 [some (.ref 0), some (.int 59)] [] M) :
    WX mi_T_yard 8 Q 294 [some (.ref 0)] [.int r] M := by
  refine WX.if_le (off := 223) (tgt := 517) rfl rfl (fun c1 => ?_) (fun c1 => ?_)
  · refine WX.run (pc' := 518) (L' := [some (.ref 0)]) (st' := [.int 0]) (M' := M) (P := True) 1 rfl trivial ?_
    exact WX.zret rfl rfl (Or.inl rfl) (h1 c1)
  · refine WX.run (pc' := 300) (L' := [some (.ref 0)]) (st' := [.int 59, .ref 0]) (M' := M) (P := True) 2 rfl trivial ?_
    refine WX.callV (ca := mi_C_type) (n := 1) (d' := 2) (st := []) (As := [.int 59]) (q := 0) rfl lk_10_9 ck_C_type cv_C_type rfl (by decide) rfl (Nat.le_of_ble_eq_true rfl) ⟨by decide, rfl, by decide⟩ (by intro w hw; simp only [List.mem_cons, List.not_mem_nil, or_false] at hw; rcases hw with rfl <;> rfl) (Nat.le_of_ble_eq_true rfl) ?_
    exact (h2 c1)
theorem sg_T_yard_0_303 {Q : Option Value → Mem → Prop} (M : Mem) (r : Int32)
    (h1 : r ≤ 0 → Q (some (.int 0)) M)
    (h2 : ¬ r ≤ 0 → WX mi_C_type 2 (fun rv M' => WX mi_T_yard 8 Q 312 [some (.ref 0)] (rv.toList ++ []) M') 0 [some (.ref 0), some (.int 100)] [] M) :
    WX mi_T_yard 8 Q 303 [some (.ref 0)] [.int r] M := by
  refine WX.if_le (off := 214) (tgt := 517) rfl rfl (fun c1 => ?_) (fun c1 => ?_)
  · refine WX.run (pc' := 518) (L' := [some (.ref 0)]) (st' := [.int 0]) (M' := M) (P := True) 1 rfl trivial ?_
    exact WX.zret rfl rfl (Or.inl rfl) (h1 c1)
  · refine WX.run (pc' := 309) (L' := [some (.ref 0)]) (st' := [.int 100, .ref 0]) (M' := M) (P := True) 2 rfl trivial ?_
    refine WX.callV (ca := mi_C_type) (n := 1) (d' := 2) (st := []) (As := [.int 100]) (q := 0) rfl lk_10_9 ck_C_type cv_C_type rfl (by decide) rfl (Nat.le_of_ble_eq_true rfl) ⟨by decide, rfl, by decide⟩ (by intro w hw; simp only [List.mem_cons, List.not_mem_nil, or_false] at hw; rcases hw with rfl <;> rfl) (Nat.le_of_ble_eq_true rfl) ?_
    exact (h2 c1)
theorem sg_T_yard_0_312 {Q : Option Value → Mem → Prop} (M : Mem) (r : Int32)
    (h1 : r ≤ 0 → Q (some (.int 0)) M)
    (h2 : ¬ r ≤ 0 → WX mi_C_type 2 (fun rv M' => WX mi_T_yard 8 Q 321 [some (.ref 0)] (rv.toList ++ []) M') 0 [some (.ref 0), some (.int 32)] [] M) :
    WX mi_T_yard 8 Q 312 [some (.ref 0)] [.int r] M := by
  refine WX.if_le (off := 205) (tgt := 517) rfl rfl (fun c1 => ?_) (fun c1 => ?_)
  · refine WX.run (pc' := 518) (L' := [some (.ref 0)]) (st' := [.int 0]) (M' := M) (P := True) 1 rfl trivial ?_
    exact WX.zret rfl rfl (Or.inl rfl) (h1 c1)
  · refine WX.run (pc' := 318) (L' := [some (.ref 0)]) (st' := [.int 32, .ref 0]) (M' := M) (P := True) 2 rfl trivial ?_
    refine WX.callV (ca := mi_C_type) (n := 1) (d' := 2) (st := []) (As := [.int 32]) (q := 0) rfl lk_10_9 ck_C_type cv_C_type rfl (by decide) rfl (Nat.le_of_ble_eq_true rfl) ⟨by decide, rfl, by decide⟩ (by intro w hw; simp only [List.mem_cons, List.not_mem_nil, or_false] at hw; rcases hw with rfl <;> rfl) (Nat.le_of_ble_eq_true rfl) ?_
    exact (h2 c1)
theorem sg_T_yard_0_321 {Q : Option Value → Mem → Prop} (M : Mem) (r : Int32)
    (h1 : r ≤ 0 → Q (some (.int 0)) M)
    (h2 : ¬ r ≤ 0 → WX mi_C_type 2 (fun rv M' => WX mi_T_yard 8 Q 330 [some (.ref 0)] (rv.toList ++ []) M') 0 [some (.ref 0), some (.int 50)] [] M) :
    WX mi_T_yard 8 Q 321 [some (.ref 0)] [.int r] M := by
  refine WX.if_le (off := 196) (tgt := 517) rfl rfl (fun c1 => ?_) (fun c1 => ?_)
  · refine WX.run (pc' := 518) (L' := [some (.ref 0)]) (st' := [.int 0]) (M' := M) (P := True) 1 rfl trivial ?_
    exact WX.zret rfl rfl (Or.inl rfl) (h1 c1)
  · refine WX.run (pc' := 327) (L' := [some (.ref 0)]) (st' := [.int 50, .ref 0]) (M' := M) (P := True) 2 rfl trivial ?_
    refine WX.callV (ca := mi_C_type) (n := 1) (d' := 2) (st := []) (As := [.int 50]) (q := 0) rfl lk_10_9 ck_C_type cv_C_type rfl (by decide) rfl (Nat.le_of_ble_eq_true rfl) ⟨by decide, rfl, by decide⟩ (by intro w hw; simp only [List.mem_cons, List.not_mem_nil, or_false] at hw; rcases hw with rfl <;> rfl) (Nat.le_of_ble_eq_true rfl) ?_
    exact (h2 c1)
theorem sg_T_yard_0_330 {Q : Option Value → Mem → Prop} (M : Mem) (r : Int32)
    (h1 : r ≤ 0 → Q (some (.int 0)) M)
    (h2 : ¬ r ≤ 0 → WX mi_C_type 2 (fun rv M' => WX mi_T_yard 8 Q 339 [some (.ref 0)] (rv.toList ++ []) M') 0 [some (.ref 0), some (.int 32)] [] M) :
    WX mi_T_yard 8 Q 330 [some (.ref 0)] [.int r] M := by
  refine WX.if_le (off := 187) (tgt := 517) rfl rfl (fun c1 => ?_) (fun c1 => ?_)
  · refine WX.run (pc' := 518) (L' := [some (.ref 0)]) (st' := [.int 0]) (M' := M) (P := True) 1 rfl trivial ?_
    exact WX.zret rfl rfl (Or.inl rfl) (h1 c1)
  · refine WX.run (pc' := 336) (L' := [some (.ref 0)]) (st' := [.int 32, .ref 0]) (M' := M) (P := True) 2 rfl trivial ?_
    refine WX.callV (ca := mi_C_type) (n := 1) (d' := 2) (st := []) (As := [.int 32]) (q := 0) rfl lk_10_9 ck_C_type cv_C_type rfl (by decide) rfl (Nat.le_of_ble_eq_true rfl) ⟨by decide, rfl, by decide⟩ (by intro w hw; simp only [List.mem_cons, List.not_mem_nil, or_false] at hw; rcases hw with rfl <;> rfl) (Nat.le_of_ble_eq_true rfl) ?_
    exact (h2 c1)
theorem sg_T_yard_0_339 {Q : Option Value → Mem → Prop} (M : Mem) (r : Int32)
    (h1 : r ≤ 0 → Q (some (.int 0)) M)
    (h2 : ¬ r ≤ 0 → WX mi_C_type 2 (fun rv M' => WX mi_T_yard 8 Q 348 [some (.ref 0)] (rv.toList ++ []) M') 0 [some (.ref 0), some (.int 50)] [] M) :
    WX mi_T_yard 8 Q 339 [some (.ref 0)] [.int r] M := by
  refine WX.if_le (off := 178) (tgt := 517) rfl rfl (fun c1 => ?_) (fun c1 => ?_)
  · refine WX.run (pc' := 518) (L' := [some (.ref 0)]) (st' := [.int 0]) (M' := M) (P := True) 1 rfl trivial ?_
    exact WX.zret rfl rfl (Or.inl rfl) (h1 c1)
  · refine WX.run (pc' := 345) (L' := [some (.ref 0)]) (st' := [.int 50, .ref 0]) (M' := M) (P := True) 2 rfl trivial ?_
    refine WX.callV (ca := mi_C_type) (n := 1) (d' := 2) (st := []) (As := [.int 50]) (q := 0) rfl lk_10_9 ck_C_type cv_C_type rfl (by decide) rfl (Nat.le_of_ble_eq_true rfl) ⟨by decide, rfl, by decide⟩ (by intro w hw; simp only [List.mem_cons, List.not_mem_nil, or_false] at hw; rcases hw with rfl <;> rfl) (Nat.le_of_ble_eq_true rfl) ?_
    exact (h2 c1)
theorem sg_T_yard_0_348 {Q : Option Value → Mem → Prop} (M : Mem) (r : Int32)
    (h1 : r ≤ 0 → Q (some (.int 0)) M)
    (h2 : ¬ r ≤ 0 → WX mi_C_type 2 (fun rv M' => WX mi_T_yard 8 Q 357 [some (.ref 0)] (rv.toList ++ []) M') 0 [some (.ref 0), some (.int 59)] [] M) :
    WX mi_T_yard 8 Q 348 [some (.ref 0)] [.int r] M := by
  refine WX.if_le (off := 169) (tgt := 517) rfl rfl (fun c1 => ?_) (fun c1 => ?_)
  · refine WX.run (pc' := 518) (L' := [some (.ref 0)]) (st' := [.int 0]) (M' := M) (P := True) 1 rfl trivial ?_
    exact WX.zret rfl rfl (Or.inl rfl) (h1 c1)
  · refine WX.run (pc' := 354) (L' := [some (.ref 0)]) (st' := [.int 59, .ref 0]) (M' := M) (P := True) 2 rfl trivial ?_
    refine WX.callV (ca := mi_C_type) (n := 1) (d' := 2) (st := []) (As := [.int 59]) (q := 0) rfl lk_10_9 ck_C_type cv_C_type rfl (by decide) rfl (Nat.le_of_ble_eq_true rfl) ⟨by decide, rfl, by decide⟩ (by intro w hw; simp only [List.mem_cons, List.not_mem_nil, or_false] at hw; rcases hw with rfl <;> rfl) (Nat.le_of_ble_eq_true rfl) ?_
    exact (h2 c1)
theorem sg_T_yard_0_357 {Q : Option Value → Mem → Prop} (M : Mem) (r : Int32)
    (h1 : r ≤ 0 → Q (some (.int 0)) M)
    (h2 : ¬ r ≤ 0 → WX mi_C_type 2 (fun rv M' => WX mi_T_yard 8 Q 366 [some (.ref 0)] (rv.toList ++ []) M') 0 [some (.ref 0), some (.int 111)] [] M) :
    WX mi_T_yard 8 Q 357 [some (.ref 0)] [.int r] M := by
  refine WX.if_le (off := 160) (tgt := 517) rfl rfl (fun c1 => ?_) (fun c1 => ?_)
  · refine WX.run (pc' := 518) (L' := [some (.ref 0)]) (st' := [.int 0]) (M' := M) (P := True) 1 rfl trivial ?_
    exact WX.zret rfl rfl (Or.inl rfl) (h1 c1)
  · refine WX.run (pc' := 363) (L' := [some (.ref 0)]) (st' := [.int 111, .ref 0]) (M' := M) (P := True) 2 rfl trivial ?_
    refine WX.callV (ca := mi_C_type) (n := 1) (d' := 2) (st := []) (As := [.int 111]) (q := 0) rfl lk_10_9 ck_C_type cv_C_type rfl (by decide) rfl (Nat.le_of_ble_eq_true rfl) ⟨by decide, rfl, by decide⟩ (by intro w hw; simp only [List.mem_cons, List.not_mem_nil, or_false] at hw; rcases hw with rfl <;> rfl) (Nat.le_of_ble_eq_true rfl) ?_
    exact (h2 c1)
theorem sg_T_yard_0_366 {Q : Option Value → Mem → Prop} (M : Mem) (r : Int32)
    (h1 : r ≤ 0 → Q (some (.int 0)) M)
    (h2 : ¬ r ≤ 0 → WX mi_C_type 2 (fun rv M' => WX mi_T_yard 8 Q 375 [some (.ref 0)] (rv.toList ++ []) M') 0 [some (.ref 0), some (.int 32)] [] M) :
    WX mi_T_yard 8 Q 366 [some (.ref 0)] [.int r] M := by
  refine WX.if_le (off := 151) (tgt := 517) rfl rfl (fun c1 => ?_) (fun c1 => ?_)
  · refine WX.run (pc' := 518) (L' := [some (.ref 0)]) (st' := [.int 0]) (M' := M) (P := True) 1 rfl trivial ?_
    exact WX.zret rfl rfl (Or.inl rfl) (h1 c1)
  · refine WX.run (pc' := 372) (L' := [some (.ref 0)]) (st' := [.int 32, .ref 0]) (M' := M) (P := True) 2 rfl trivial ?_
    refine WX.callV (ca := mi_C_type) (n := 1) (d' := 2) (st := []) (As := [.int 32]) (q := 0) rfl lk_10_9 ck_C_type cv_C_type rfl (by decide) rfl (Nat.le_of_ble_eq_true rfl) ⟨by decide, rfl, by decide⟩ (by intro w hw; simp only [List.mem_cons, List.not_mem_nil, or_false] at hw; rcases hw with rfl <;> rfl) (Nat.le_of_ble_eq_true rfl) ?_
    exact (h2 c1)
theorem sg_T_yard_0_375 {Q : Option Value → Mem → Prop} (M : Mem) (r : Int32)
    (h1 : r ≤ 0 → Q (some (.int 0)) M)
    (h2 : ¬ r ≤ 0 → WX mi_C_type 2 (fun rv M' => WX mi_T_yard 8 Q 384 [some (.ref 0)] (rv.toList ++ []) M') 0 [some (.ref 0), some (.int 48)] [] M) :
    WX mi_T_yard 8 Q 375 [some (.ref 0)] [.int r] M := by
  refine WX.if_le (off := 142) (tgt := 517) rfl rfl (fun c1 => ?_) (fun c1 => ?_)
  · refine WX.run (pc' := 518) (L' := [some (.ref 0)]) (st' := [.int 0]) (M' := M) (P := True) 1 rfl trivial ?_
    exact WX.zret rfl rfl (Or.inl rfl) (h1 c1)
  · refine WX.run (pc' := 381) (L' := [some (.ref 0)]) (st' := [.int 48, .ref 0]) (M' := M) (P := True) 2 rfl trivial ?_
    refine WX.callV (ca := mi_C_type) (n := 1) (d' := 2) (st := []) (As := [.int 48]) (q := 0) rfl lk_10_9 ck_C_type cv_C_type rfl (by decide) rfl (Nat.le_of_ble_eq_true rfl) ⟨by decide, rfl, by decide⟩ (by intro w hw; simp only [List.mem_cons, List.not_mem_nil, or_false] at hw; rcases hw with rfl <;> rfl) (Nat.le_of_ble_eq_true rfl) ?_
    exact (h2 c1)
theorem sg_T_yard_0_384 {Q : Option Value → Mem → Prop} (M : Mem) (r : Int32)
    (h1 : r ≤ 0 → Q (some (.int 0)) M)
    (h2 : ¬ r ≤ 0 → WX mi_C_type 2 (fun rv M' => WX mi_T_yard 8 Q 393 [some (.ref 0)] (rv.toList ++ []) M') 0 [some (.ref 0), some (.int 32)] [] M) :
    WX mi_T_yard 8 Q 384 [some (.ref 0)] [.int r] M := by
  refine WX.if_le (off := 133) (tgt := 517) rfl rfl (fun c1 => ?_) (fun c1 => ?_)
  · refine WX.run (pc' := 518) (L' := [some (.ref 0)]) (st' := [.int 0]) (M' := M) (P := True) 1 rfl trivial ?_
    exact WX.zret rfl rfl (Or.inl rfl) (h1 c1)
  · refine WX.run (pc' := 390) (L' := [some (.ref 0)]) (st' := [.int 32, .ref 0]) (M' := M) (P := True) 2 rfl trivial ?_
    refine WX.callV (ca := mi_C_type) (n := 1) (d' := 2) (st := []) (As := [.int 32]) (q := 0) rfl lk_10_9 ck_C_type cv_C_type rfl (by decide) rfl (Nat.le_of_ble_eq_true rfl) ⟨by decide, rfl, by decide⟩ (by intro w hw; simp only [List.mem_cons, List.not_mem_nil, or_false] at hw; rcases hw with rfl <;> rfl) (Nat.le_of_ble_eq_true rfl) ?_
    exact (h2 c1)
theorem sg_T_yard_0_393 {Q : Option Value → Mem → Prop} (M : Mem) (r : Int32)
    (h1 : r ≤ 0 → Q (some (.int 0)) M)
    (h2 : ¬ r ≤ 0 → WX mi_C_type 2 (fun rv M' => WX mi_T_yard 8 Q 402 [some (.ref 0)] (rv.toList ++ []) M') 0 [some (.ref 0), some (.int 50)] [] M) :
    WX mi_T_yard 8 Q 393 [some (.ref 0)] [.int r] M := by
  refine WX.if_le (off := 124) (tgt := 517) rfl rfl (fun c1 => ?_) (fun c1 => ?_)
  · refine WX.run (pc' := 518) (L' := [some (.ref 0)]) (st' := [.int 0]) (M' := M) (P := True) 1 rfl trivial ?_
    exact WX.zret rfl rfl (Or.inl rfl) (h1 c1)
  · refine WX.run (pc' := 399) (L' := [some (.ref 0)]) (st' := [.int 50, .ref 0]) (M' := M) (P := True) 2 rfl trivial ?_
    refine WX.callV (ca := mi_C_type) (n := 1) (d' := 2) (st := []) (As := [.int 50]) (q := 0) rfl lk_10_9 ck_C_type cv_C_type rfl (by decide) rfl (Nat.le_of_ble_eq_true rfl) ⟨by decide, rfl, by decide⟩ (by intro w hw; simp only [List.mem_cons, List.not_mem_nil, or_false] at hw; rcases hw with rfl <;> rfl) (Nat.le_of_ble_eq_true rfl) ?_
    exact (h2 c1)
theorem sg_T_yard_0_402 {Q : Option Value → Mem → Prop} (M : Mem) (r : Int32)
    (h1 : r ≤ 0 → Q (some (.int 0)) M)
    (h2 : ¬ r ≤ 0 → WX mi_C_type 2 (fun rv M' => WX mi_T_yard 8 Q 411 [some (.ref 0)] (rv.toList ++ []) M') 0 [some (.ref 0), some (.int 59)] [] M) :
    WX mi_T_yard 8 Q 402 [some (.ref 0)] [.int r] M := by
  refine WX.if_le (off := 115) (tgt := 517) rfl rfl (fun c1 => ?_) (fun c1 => ?_)
  · refine WX.run (pc' := 518) (L' := [some (.ref 0)]) (st' := [.int 0]) (M' := M) (P := True) 1 rfl trivial ?_
    exact WX.zret rfl rfl (Or.inl rfl) (h1 c1)
  · refine WX.run (pc' := 408) (L' := [some (.ref 0)]) (st' := [.int 59, .ref 0]) (M' := M) (P := True) 2 rfl trivial ?_
    refine WX.callV (ca := mi_C_type) (n := 1) (d' := 2) (st := []) (As := [.int 59]) (q := 0) rfl lk_10_9 ck_C_type cv_C_type rfl (by decide) rfl (Nat.le_of_ble_eq_true rfl) ⟨by decide, rfl, by decide⟩ (by intro w hw; simp only [List.mem_cons, List.not_mem_nil, or_false] at hw; rcases hw with rfl <;> rfl) (Nat.le_of_ble_eq_true rfl) ?_
    exact (h2 c1)
theorem sg_T_yard_0_411 {Q : Option Value → Mem → Prop} (M : Mem) (r : Int32)
    (h1 : r ≤ 0 → Q (some (.int 0)) M)
    (h2 : ¬ r ≤ 0 → WX mi_C_type 2 (fun rv M' => WX mi_T_yard 8 Q 420 [some (.ref 0)] (rv.toList ++ []) M') 0 [some (.ref 0), some (.int 115)] [] M) :
    WX mi_T_yard 8 Q 411 [some (.ref 0)] [.int r] M := by
  refine WX.if_le (off := 106) (tgt := 517) rfl rfl (fun c1 => ?_) (fun c1 => ?_)
  · refine WX.run (pc' := 518) (L' := [some (.ref 0)]) (st' := [.int 0]) (M' := M) (P := True) 1 rfl trivial ?_
    exact WX.zret rfl rfl (Or.inl rfl) (h1 c1)
  · refine WX.run (pc' := 417) (L' := [some (.ref 0)]) (st' := [.int 115, .ref 0]) (M' := M) (P := True) 2 rfl trivial ?_
    refine WX.callV (ca := mi_C_type) (n := 1) (d' := 2) (st := []) (As := [.int 115]) (q := 0) rfl lk_10_9 ck_C_type cv_C_type rfl (by decide) rfl (Nat.le_of_ble_eq_true rfl) ⟨by decide, rfl, by decide⟩ (by intro w hw; simp only [List.mem_cons, List.not_mem_nil, or_false] at hw; rcases hw with rfl <;> rfl) (Nat.le_of_ble_eq_true rfl) ?_
    exact (h2 c1)
theorem sg_T_yard_0_420 {Q : Option Value → Mem → Prop} (M : Mem) (r : Int32)
    (h1 : r ≤ 0 → Q (some (.int 0)) M)
    (h2 : ¬ r ≤ 0 → WX mi_C_type 2 (fun rv M' => WX mi_T_yard 8 Q 429 [some (.ref 0)] (rv.toList ++ []) M') 0 [some (.ref 0), some (.int 32)] [] M) :
    WX mi_T_yard 8 Q 420 [some (.ref 0)] [.int r] M := by
  refine WX.if_le (off := 97) (tgt := 517) rfl rfl (fun c1 => ?_) (fun c1 => ?_)
  · refine WX.run (pc' := 518) (L' := [some (.ref 0)]) (st' := [.int 0]) (M' := M) (P := True) 1 rfl trivial ?_
    exact WX.zret rfl rfl (Or.inl rfl) (h1 c1)
  · refine WX.run (pc' := 426) (L' := [some (.ref 0)]) (st' := [.int 32, .ref 0]) (M' := M) (P := True) 2 rfl trivial ?_
    refine WX.callV (ca := mi_C_type) (n := 1) (d' := 2) (st := []) (As := [.int 32]) (q := 0) rfl lk_10_9 ck_C_type cv_C_type rfl (by decide) rfl (Nat.le_of_ble_eq_true rfl) ⟨by decide, rfl, by decide⟩ (by intro w hw; simp only [List.mem_cons, List.not_mem_nil, or_false] at hw; rcases hw with rfl <;> rfl) (Nat.le_of_ble_eq_true rfl) ?_
    exact (h2 c1)
theorem sg_T_yard_0_429 {Q : Option Value → Mem → Prop} (M : Mem) (r : Int32)
    (h1 : r ≤ 0 → Q (some (.int 0)) M)
    (h2 : ¬ r ≤ 0 → WX mi_C_type 2 (fun rv M' => WX mi_T_yard 8 Q 438 [some (.ref 0)] (rv.toList ++ []) M') 0 [some (.ref 0), some (.int 49)] [] M) :
    WX mi_T_yard 8 Q 429 [some (.ref 0)] [.int r] M := by
  refine WX.if_le (off := 88) (tgt := 517) rfl rfl (fun c1 => ?_) (fun c1 => ?_)
  · refine WX.run (pc' := 518) (L' := [some (.ref 0)]) (st' := [.int 0]) (M' := M) (P := True) 1 rfl trivial ?_
    exact WX.zret rfl rfl (Or.inl rfl) (h1 c1)
  · refine WX.run (pc' := 435) (L' := [some (.ref 0)]) (st' := [.int 49, .ref 0]) (M' := M) (P := True) 2 rfl trivial ?_
    refine WX.callV (ca := mi_C_type) (n := 1) (d' := 2) (st := []) (As := [.int 49]) (q := 0) rfl lk_10_9 ck_C_type cv_C_type rfl (by decide) rfl (Nat.le_of_ble_eq_true rfl) ⟨by decide, rfl, by decide⟩ (by intro w hw; simp only [List.mem_cons, List.not_mem_nil, or_false] at hw; rcases hw with rfl <;> rfl) (Nat.le_of_ble_eq_true rfl) ?_
    exact (h2 c1)
theorem sg_T_yard_0_438 {Q : Option Value → Mem → Prop} (M : Mem) (r : Int32)
    (h1 : r ≤ 0 → Q (some (.int 0)) M)
    (h2 : ¬ r ≤ 0 → WX mi_C_type 2 (fun rv M' => WX mi_T_yard 8 Q 447 [some (.ref 0)] (rv.toList ++ []) M') 0 [some (.ref 0), some (.int 32)] [] M) :
    WX mi_T_yard 8 Q 438 [some (.ref 0)] [.int r] M := by
  refine WX.if_le (off := 79) (tgt := 517) rfl rfl (fun c1 => ?_) (fun c1 => ?_)
  · refine WX.run (pc' := 518) (L' := [some (.ref 0)]) (st' := [.int 0]) (M' := M) (P := True) 1 rfl trivial ?_
    exact WX.zret rfl rfl (Or.inl rfl) (h1 c1)
  · refine WX.run (pc' := 444) (L' := [some (.ref 0)]) (st' := [.int 32, .ref 0]) (M' := M) (P := True) 2 rfl trivial ?_
    refine WX.callV (ca := mi_C_type) (n := 1) (d' := 2) (st := []) (As := [.int 32]) (q := 0) rfl lk_10_9 ck_C_type cv_C_type rfl (by decide) rfl (Nat.le_of_ble_eq_true rfl) ⟨by decide, rfl, by decide⟩ (by intro w hw; simp only [List.mem_cons, List.not_mem_nil, or_false] at hw; rcases hw with rfl <;> rfl) (Nat.le_of_ble_eq_true rfl) ?_
    exact (h2 c1)
theorem sg_T_yard_0_447 {Q : Option Value → Mem → Prop} (M : Mem) (r : Int32)
    (h1 : r ≤ 0 → Q (some (.int 0)) M)
    (h2 : ¬ r ≤ 0 → WX mi_C_type 2 (fun rv M' => WX mi_T_yard 8 Q 456 [some (.ref 0)] (rv.toList ++ []) M') 0 [some (.ref 0), some (.int 50)] [] M) :
    WX mi_T_yard 8 Q 447 [some (.ref 0)] [.int r] M := by
  refine WX.if_le (off := 70) (tgt := 517) rfl rfl (fun c1 => ?_) (fun c1 => ?_)
  · refine WX.run (pc' := 518) (L' := [some (.ref 0)]) (st' := [.int 0]) (M' := M) (P := True) 1 rfl trivial ?_
    exact WX.zret rfl rfl (Or.inl rfl) (h1 c1)
  · refine WX.run (pc' := 453) (L' := [some (.ref 0)]) (st' := [.int 50, .ref 0]) (M' := M) (P := True) 2 rfl trivial ?_
    refine WX.callV (ca := mi_C_type) (n := 1) (d' := 2) (st := []) (As := [.int 50]) (q := 0) rfl lk_10_9 ck_C_type cv_C_type rfl (by decide) rfl (Nat.le_of_ble_eq_true rfl) ⟨by decide, rfl, by decide⟩ (by intro w hw; simp only [List.mem_cons, List.not_mem_nil, or_false] at hw; rcases hw with rfl <;> rfl) (Nat.le_of_ble_eq_true rfl) ?_
    exact (h2 c1)
theorem sg_T_yard_0_456 {Q : Option Value → Mem → Prop} (M : Mem) (r : Int32)
    (h1 : r ≤ 0 → Q (some (.int 0)) M)
    (h2 : ¬ r ≤ 0 → WX mi_C_type 2 (fun rv M' => WX mi_T_yard 8 Q 465 [some (.ref 0)] (rv.toList ++ []) M') 0 [some (.ref 0), some (.int 32)] [] M) :
    WX mi_T_yard 8 Q 456 [some (.ref 0)] [.int r] M := by
  refine WX.if_le (off := 61) (tgt := 517) rfl rfl (fun c1 => ?_) (fun c1 => ?_)
  · refine WX.run (pc' := 518) (L' := [some (.ref 0)]) (st' := [.int 0]) (M' := M) (P := True) 1 rfl trivial ?_
    exact WX.zret rfl rfl (Or.inl rfl) (h1 c1)
  · refine WX.run (pc' := 462) (L' := [some (.ref 0)]) (st' := [.int 32, .ref 0]) (M' := M) (P := True) 2 rfl trivial ?_
    refine WX.callV (ca := mi_C_type) (n := 1) (d' := 2) (st := []) (As := [.int 32]) (q := 0) rfl lk_10_9 ck_C_type cv_C_type rfl (by decide) rfl (Nat.le_of_ble_eq_true rfl) ⟨by decide, rfl, by decide⟩ (by intro w hw; simp only [List.mem_cons, List.not_mem_nil, or_false] at hw; rcases hw with rfl <;> rfl) (Nat.le_of_ble_eq_true rfl) ?_
    exact (h2 c1)
theorem sg_T_yard_0_465 {Q : Option Value → Mem → Prop} (M : Mem) (r : Int32)
    (h1 : r ≤ 0 → Q (some (.int 0)) M)
    (h2 : ¬ r ≤ 0 → WX mi_C_type 2 (fun rv M' => WX mi_T_yard 8 Q 474 [some (.ref 0)] (rv.toList ++ []) M') 0 [some (.ref 0), some (.int 50)] [] M) :
    WX mi_T_yard 8 Q 465 [some (.ref 0)] [.int r] M := by
  refine WX.if_le (off := 52) (tgt := 517) rfl rfl (fun c1 => ?_) (fun c1 => ?_)
  · refine WX.run (pc' := 518) (L' := [some (.ref 0)]) (st' := [.int 0]) (M' := M) (P := True) 1 rfl trivial ?_
    exact WX.zret rfl rfl (Or.inl rfl) (h1 c1)
  · refine WX.run (pc' := 471) (L' := [some (.ref 0)]) (st' := [.int 50, .ref 0]) (M' := M) (P := True) 2 rfl trivial ?_
    refine WX.callV (ca := mi_C_type) (n := 1) (d' := 2) (st := []) (As := [.int 50]) (q := 0) rfl lk_10_9 ck_C_type cv_C_type rfl (by decide) rfl (Nat.le_of_ble_eq_true rfl) ⟨by decide, rfl, by decide⟩ (by intro w hw; simp only [List.mem_cons, List.not_mem_nil, or_false] at hw; rcases hw with rfl <;> rfl) (Nat.le_of_ble_eq_true rfl) ?_
    exact (h2 c1)
theorem sg_T_yard_0_474 {Q : Option Value → Mem → Prop} (M : Mem) (r : Int32)
    (h1 : r ≤ 0 → Q (some (.int 0)) M)
    (h2 : ¬ r ≤ 0 → WX mi_C_type 2 (fun rv M' => WX mi_T_yard 8 Q 483 [some (.ref 0)] (rv.toList ++ []) M') 0 [some (.ref 0), some (.int 32)] [] M) :
    WX mi_T_yard 8 Q 474 [some (.ref 0)] [.int r] M := by
  refine WX.if_le (off := 43) (tgt := 517) rfl rfl (fun c1 => ?_) (fun c1 => ?_)
  · refine WX.run (pc' := 518) (L' := [some (.ref 0)]) (st' := [.int 0]) (M' := M) (P := True) 1 rfl trivial ?_
    exact WX.zret rfl rfl (Or.inl rfl) (h1 c1)
  · refine WX.run (pc' := 480) (L' := [some (.ref 0)]) (st' := [.int 32, .ref 0]) (M' := M) (P := True) 2 rfl trivial ?_
    refine WX.callV (ca := mi_C_type) (n := 1) (d' := 2) (st := []) (As := [.int 32]) (q := 0) rfl lk_10_9 ck_C_type cv_C_type rfl (by decide) rfl (Nat.le_of_ble_eq_true rfl) ⟨by decide, rfl, by decide⟩ (by intro w hw; simp only [List.mem_cons, List.not_mem_nil, or_false] at hw; rcases hw with rfl <;> rfl) (Nat.le_of_ble_eq_true rfl) ?_
    exact (h2 c1)
theorem sg_T_yard_0_483 {Q : Option Value → Mem → Prop} (M : Mem) (r : Int32)
    (h1 : r ≤ 0 → Q (some (.int 0)) M)
    (h2 : ¬ r ≤ 0 → WX mi_C_type 2 (fun rv M' => WX mi_T_yard 8 Q 492 [some (.ref 0)] (rv.toList ++ []) M') 0 [some (.ref 0), some (.int 53)] [] M) :
    WX mi_T_yard 8 Q 483 [some (.ref 0)] [.int r] M := by
  refine WX.if_le (off := 34) (tgt := 517) rfl rfl (fun c1 => ?_) (fun c1 => ?_)
  · refine WX.run (pc' := 518) (L' := [some (.ref 0)]) (st' := [.int 0]) (M' := M) (P := True) 1 rfl trivial ?_
    exact WX.zret rfl rfl (Or.inl rfl) (h1 c1)
  · refine WX.run (pc' := 489) (L' := [some (.ref 0)]) (st' := [.int 53, .ref 0]) (M' := M) (P := True) 2 rfl trivial ?_
    refine WX.callV (ca := mi_C_type) (n := 1) (d' := 2) (st := []) (As := [.int 53]) (q := 0) rfl lk_10_9 ck_C_type cv_C_type rfl (by decide) rfl (Nat.le_of_ble_eq_true rfl) ⟨by decide, rfl, by decide⟩ (by intro w hw; simp only [List.mem_cons, List.not_mem_nil, or_false] at hw; rcases hw with rfl <;> rfl) (Nat.le_of_ble_eq_true rfl) ?_
    exact (h2 c1)
theorem sg_T_yard_0_492 {Q : Option Value → Mem → Prop} (M : Mem) (r : Int32)
    (h1 : r ≤ 0 → Q (some (.int 0)) M)
    (h2 : ¬ r ≤ 0 → WX mi_C_type 2 (fun rv M' => WX mi_T_yard 8 Q 501 [some (.ref 0)] (rv.toList ++ []) M') 0 [some (.ref 0), some (.int 59)] [] M) :
    WX mi_T_yard 8 Q 492 [some (.ref 0)] [.int r] M := by
  refine WX.if_le (off := 25) (tgt := 517) rfl rfl (fun c1 => ?_) (fun c1 => ?_)
  · refine WX.run (pc' := 518) (L' := [some (.ref 0)]) (st' := [.int 0]) (M' := M) (P := True) 1 rfl trivial ?_
    exact WX.zret rfl rfl (Or.inl rfl) (h1 c1)
  · refine WX.run (pc' := 498) (L' := [some (.ref 0)]) (st' := [.int 59, .ref 0]) (M' := M) (P := True) 2 rfl trivial ?_
    refine WX.callV (ca := mi_C_type) (n := 1) (d' := 2) (st := []) (As := [.int 59]) (q := 0) rfl lk_10_9 ck_C_type cv_C_type rfl (by decide) rfl (Nat.le_of_ble_eq_true rfl) ⟨by decide, rfl, by decide⟩ (by intro w hw; simp only [List.mem_cons, List.not_mem_nil, or_false] at hw; rcases hw with rfl <;> rfl) (Nat.le_of_ble_eq_true rfl) ?_
    exact (h2 c1)
theorem sg_T_yard_0_501 {Q : Option Value → Mem → Prop} (M : Mem) (r : Int32)
    (h1 : r ≤ 0 → Q (some (.int 0)) M)
    (h2 : ¬ r ≤ 0 → WX mi_C_yard 7 (fun rv M' => WX mi_T_yard 8 Q 508 [some (.ref 0)] (rv.toList ++ []) M') 0 [some (.ref 0), none] [] M) :
    WX mi_T_yard 8 Q 501 [some (.ref 0)] [.int r] M := by
  refine WX.if_le (off := 16) (tgt := 517) rfl rfl (fun c1 => ?_) (fun c1 => ?_)
  · refine WX.run (pc' := 518) (L' := [some (.ref 0)]) (st' := [.int 0]) (M' := M) (P := True) 1 rfl trivial ?_
    exact WX.zret rfl rfl (Or.inl rfl) (h1 c1)
  · refine WX.run (pc' := 505) (L' := [some (.ref 0)]) (st' := [.ref 0]) (M' := M) (P := True) 1 rfl trivial ?_
    refine WX.callV (ca := mi_C_yard) (n := 0) (d' := 7) (st := []) (As := []) (q := 0) rfl lk_10_70 ck_C_yard cv_C_yard rfl (by decide) rfl (Nat.le_of_ble_eq_true rfl) ⟨by decide, rfl, by decide⟩ (fun w hw => absurd hw List.not_mem_nil) (Nat.le_of_ble_eq_true rfl) ?_
    exact (h2 c1)
theorem sg_T_yard_0_508 {Q : Option Value → Mem → Prop} (M : Mem) (r : Int32)
    (h1 : ¬ r = 8 → Q (some (.int 0)) M)
    (h2 : r = 8 → Q (some (.int 1)) M) :
    WX mi_T_yard 8 Q 508 [some (.ref 0)] [.int r] M := by
  refine WX.run (pc' := 510) (L' := [some (.ref 0)]) (st' := [.int 8, .int r]) (M' := M) (P := True) 1 rfl trivial ?_
  refine WX.icmp_ne (off := 7) (tgt := 517) rfl rfl (fun c1 => ?_) (fun c1 => ?_)
  · refine WX.run (pc' := 518) (L' := [some (.ref 0)]) (st' := [.int 0]) (M' := M) (P := True) 1 rfl trivial ?_
    exact WX.zret rfl rfl (Or.inl rfl) (h1 c1)
  · refine WX.run (pc' := 518) (L' := [some (.ref 0)]) (st' := [.int 1]) (M' := M) (P := True) 2 rfl trivial ?_
    exact WX.zret rfl rfl (Or.inr rfl) (h2 c1)
theorem sg_T_turn_0_0 {Q : Option Value → Mem → Prop} (M : Mem) (x1 : Int32)
    (h1 : (x1 &&& 15) = 0 → WX mi_C_lays 5 (fun rv M' => WX mi_T_turn 27 Q 105 [some (.ref 0), some (.int x1), some (.int (shr x1 4))] (rv.toList ++ []) M') 0 [some (.ref 0), some (.int ((shr x1 4) &&& 3)), some (.int (z_T_low (shr (shr x1 4) 2) 3)), some (.int (z_T_low (shr (shr x1 4) 4) 3)), none] [] M)
    (h2 : (x1 &&& 15) = 1 → WX mi_C_lays 5 (fun rv M' => WX mi_T_turn 27 Q 105 [some (.ref 0), some (.int x1), some (.int (shr x1 4))] (rv.toList ++ []) M') 0 [some (.ref 0), some (.int ((shr x1 4) &&& 3)), some (.int (z_T_low (shr (shr x1 4) 2) 3)), some (.int (z_T_low (shr (shr x1 4) 4) 3)), none] [] M)
    (h3 : (x1 &&& 15) = 2 → WX mi_C_lays 5 (fun rv M' => WX mi_T_turn 27 Q 105 [some (.ref 0), some (.int x1), some (.int (shr x1 4))] (rv.toList ++ []) M') 0 [some (.ref 0), some (.int ((shr x1 4) &&& 3)), some (.int (z_T_low (shr (shr x1 4) 2) 3)), some (.int (z_T_low (shr (shr x1 4) 4) 3)), none] [] M)
    (h4 : (x1 &&& 15) = 3 → WX mi_C_lays 5 (fun rv M' => WX mi_T_turn 27 Q 105 [some (.ref 0), some (.int x1), some (.int (shr x1 4))] (rv.toList ++ []) M') 0 [some (.ref 0), some (.int ((shr x1 4) &&& 3)), some (.int (z_T_low (shr (shr x1 4) 2) 3)), some (.int (z_T_low (shr (shr x1 4) 4) 3)), none] [] M)
    (h5 : (x1 &&& 15) = 4 → WX mi_C_lifts 5 (fun rv M' => WX mi_T_turn 27 Q 122 [some (.ref 0), some (.int x1), some (.int (shr x1 4))] (rv.toList ++ []) M') 0 [some (.ref 0), some (.int (z_T_low (shr x1 4) 3)), some (.int (z_T_low (shr (shr x1 4) 2) 3)), none] [] M)
    (h6 : (x1 &&& 15) = 5 → WX mi_C_lifts 5 (fun rv M' => WX mi_T_turn 27 Q 122 [some (.ref 0), some (.int x1), some (.int (shr x1 4))] (rv.toList ++ []) M') 0 [some (.ref 0), some (.int (z_T_low (shr x1 4) 3)), some (.int (z_T_low (shr (shr x1 4) 2) 3)), none] [] M)
    (h7 : (x1 &&& 15) = 6 → WX mi_C_raises 4 (fun rv M' => WX mi_T_turn 27 Q 147 [some (.ref 0), some (.int x1), some (.int (shr x1 4))] (rv.toList ++ []) M') 0 [some (.ref 0), some (.int (z_T_low (shr x1 4) 3)), some (.int (z_T_low (shr (shr x1 4) 2) 3)), some (.int (z_T_low (shr (shr x1 4) 4) 10)), none] [] M)
    (h8 : (x1 &&& 15) = 7 → WX mi_C_raises 4 (fun rv M' => WX mi_T_turn 27 Q 147 [some (.ref 0), some (.int x1), some (.int (shr x1 4))] (rv.toList ++ []) M') 0 [some (.ref 0), some (.int (z_T_low (shr x1 4) 3)), some (.int (z_T_low (shr (shr x1 4) 2) 3)), some (.int (z_T_low (shr (shr x1 4) 4) 10)), none] [] M)
    (h9 : (x1 &&& 15) = 8 → WX mi_C_day 3 (fun rv M' => WX mi_T_turn 27 Q 152 [some (.ref 0), some (.int x1), some (.int (shr x1 4))] (rv.toList ++ []) M') 0 [some (.ref 0)] [] M)
    (h10 : (x1 &&& 15) = 9 → WX mi_C_undo 5 (fun rv M' => WX mi_T_turn 27 Q 157 [some (.ref 0), some (.int x1), some (.int (shr x1 4))] (rv.toList ++ []) M') 0 [some (.ref 0)] [] M)
    (h11 : (x1 &&& 15) = 10 → WX mi_C_undo 5 (fun rv M' => WX mi_T_turn 27 Q 157 [some (.ref 0), some (.int x1), some (.int (shr x1 4))] (rv.toList ++ []) M') 0 [some (.ref 0)] [] M)
    (h12 : (x1 &&& 15) = 11 → ¬ ((shr x1 4) &&& 1) = 0 → WX mi_C_back 2 (fun rv M' => WX mi_T_turn 27 Q 185 [some (.ref 0), some (.int x1), some (.int (shr x1 4))] (rv.toList ++ []) M') 0 [some (.ref 0), some (.int ((shr (shr x1 4) 1) &&& 1))] [] M)
    (h13 : (x1 &&& 15) = 11 → ((shr x1 4) &&& 1) = 0 → WX mi_C_keep 2 (fun rv M' => WX mi_T_turn 27 Q 173 [some (.ref 0), some (.int x1), some (.int (shr x1 4))] (rv.toList ++ []) M') 0 [some (.ref 0), some (.int ((shr (shr x1 4) 1) &&& 1))] [] M)
    (h14 : (x1 &&& 15) = 12 → ¬ ((shr x1 4) &&& 7) = 0 → ¬ ((shr x1 4) &&& 7) = 1 → WX mi_C_saw 3 (fun rv M' => WX mi_T_turn 27 Q 241 [some (.ref 0), some (.int x1), some (.int (shr x1 4))] (rv.toList ++ []) M') 0 [some (.ref 0), some (.int (z_T_low (shr (shr x1 4) 3) 3)), some (.int (z_T_low (shr (shr x1 4) 5) 3))] [] M)
    (h15 : (x1 &&& 15) = 12 → ¬ ((shr x1 4) &&& 7) = 0 → ((shr x1 4) &&& 7) = 1 → WX mi_C_forget 1 (fun rv M' => WX mi_T_turn 27 Q 220 [some (.ref 0), some (.int x1), some (.int (shr x1 4))] (rv.toList ++ []) M') 0 [some (.ref 0), none] [] M)
    (h16 : (x1 &&& 15) = 12 → ((shr x1 4) &&& 7) = 0 → WX mi_T_yard 8 (fun rv M' => WX mi_T_turn 27 Q 197 [some (.ref 0), some (.int x1), some (.int (shr x1 4))] (rv.toList ++ []) M') 0 [some (.ref 0)] [] M)
    (h17 : (x1 &&& 15) = 13 → WX mi_C_mark 6 (fun rv M' => WX mi_T_turn 27 Q 266 [some (.ref 0), some (.int x1), some (.int (shr x1 4))] (rv.toList ++ []) M') 0 [some (.ref 0), some (.int (z_T_low (shr x1 4) 6)), some (.int (z_T_low (shr (shr x1 4) 3) 3)), some (.int (z_T_low (shr (shr x1 4) 5) 3)), none] [] M)
    (h18 : (x1 &&& 15) = 14 → ¬ ((shr x1 4) &&& 1) = 0 → WX mi_C_mend 5 (fun rv M' => WX mi_T_turn 27 Q 301 [some (.ref 0), some (.int x1), some (.int (shr x1 4))] (rv.toList ++ []) M') 0 [some (.ref 0), some (.int (z_T_low (shr (shr x1 4) 1) 3))] [] M)
    (h19 : (x1 &&& 15) = 14 → ((shr x1 4) &&& 1) = 0 → WX mi_C_plan 26 (fun rv M' => WX mi_T_turn 27 Q 287 [some (.ref 0), some (.int x1), some (.int (shr x1 4))] (rv.toList ++ []) M') 0 [some (.ref 0), some (.int ((z_T_low (shr (shr x1 4) 1) 12) - 1))] [] M)
    (h20 : ¬ (x1 &&& 15) = 0 → ¬ (x1 &&& 15) = 1 → ¬ (x1 &&& 15) = 2 → ¬ (x1 &&& 15) = 3 → ¬ (x1 &&& 15) = 4 → ¬ (x1 &&& 15) = 5 → ¬ (x1 &&& 15) = 6 → ¬ (x1 &&& 15) = 7 → ¬ (x1 &&& 15) = 8 → ¬ (x1 &&& 15) = 9 → ¬ (x1 &&& 15) = 10 → ¬ (x1 &&& 15) = 11 → ¬ (x1 &&& 15) = 12 → ¬ (x1 &&& 15) = 13 → ¬ (x1 &&& 15) = 14 → ¬ ((shr x1 4) &&& 1) = 0 → WX mi_C_from 5 (fun rv M' => WX mi_T_turn 27 Q 333 [some (.ref 0), some (.int x1), some (.int (shr x1 4))] (rv.toList ++ []) M') 0 [some (.ref 0), none, none, none] [] M)
    (h21 : ¬ (x1 &&& 15) = 0 → ¬ (x1 &&& 15) = 1 → ¬ (x1 &&& 15) = 2 → ¬ (x1 &&& 15) = 3 → ¬ (x1 &&& 15) = 4 → ¬ (x1 &&& 15) = 5 → ¬ (x1 &&& 15) = 6 → ¬ (x1 &&& 15) = 7 → ¬ (x1 &&& 15) = 8 → ¬ (x1 &&& 15) = 9 → ¬ (x1 &&& 15) = 10 → ¬ (x1 &&& 15) = 11 → ¬ (x1 &&& 15) = 12 → ¬ (x1 &&& 15) = 13 → ¬ (x1 &&& 15) = 14 → ((shr x1 4) &&& 1) = 0 → WX mi_C_barrow 5 (fun rv M' => WX mi_T_turn 27 Q 326 [some (.ref 0), some (.int x1), some (.int (shr x1 4))] (rv.toList ++ []) M') 0 [some (.ref 0), some (.int (z_T_low (shr (shr x1 4) 1) 3)), some (.int (z_T_low (shr (shr x1 4) 3) 3)), none, none, none, none] [] M) :
    WX mi_T_turn 27 Q 0 [some (.ref 0), some (.int x1), none] [] M := by
  refine WX.run (pc' := 8) (L' := [some (.ref 0), some (.int x1), some (.int (shr x1 4))]) (st' := [.int (x1 &&& 15)]) (M' := M) (P := True) 7 rfl trivial ?_
  by_cases c1 : (x1 &&& 15) = 0
  · refine WX.tsw (tgt := 84) rfl (by decide) (by rw [c1]; decide) ?_
    refine WX.run (pc' := 92) (L' := [some (.ref 0), some (.int x1), some (.int (shr x1 4))]) (st' := [.int 3, .int (shr (shr x1 4) 2), .int ((shr x1 4) &&& 3), .ref 0]) (M' := M) (P := True) 8 rfl trivial ?_
    refine WX.callS (ca := mi_T_low) (n := 2) (d' := 1) (st := [.int ((shr x1 4) &&& 3), .ref 0]) (As := [.int (shr (shr x1 4) 2), .int 3]) rfl lk_10_74 ck_T_low cs_T_low rfl (by decide) rfl (Nat.le_of_ble_eq_true rfl) (by intro w hw; simp only [List.mem_cons, List.not_mem_nil, or_false] at hw; rcases hw with rfl | rfl <;> rfl) (Nat.le_of_ble_eq_true rfl) ?_
    refine wx_T_low M (shr (shr x1 4) 2) 3 (by decide) ?_
    show WX mi_T_turn 27 Q 95 [some (.ref 0), some (.int x1), some (.int (shr x1 4))] [.int (z_T_low (shr (shr x1 4) 2) 3), .int ((shr x1 4) &&& 3), .ref 0] M
    refine WX.run (pc' := 99) (L' := [some (.ref 0), some (.int x1), some (.int (shr x1 4))]) (st' := [.int 3, .int (shr (shr x1 4) 4), .int (z_T_low (shr (shr x1 4) 2) 3), .int ((shr x1 4) &&& 3), .ref 0]) (M' := M) (P := True) 4 rfl trivial ?_
    refine WX.callS (ca := mi_T_low) (n := 2) (d' := 1) (st := [.int (z_T_low (shr (shr x1 4) 2) 3), .int ((shr x1 4) &&& 3), .ref 0]) (As := [.int (shr (shr x1 4) 4), .int 3]) rfl lk_10_74 ck_T_low cs_T_low rfl (by decide) rfl (Nat.le_of_ble_eq_true rfl) (by intro w hw; simp only [List.mem_cons, List.not_mem_nil, or_false] at hw; rcases hw with rfl | rfl <;> rfl) (Nat.le_of_ble_eq_true rfl) ?_
    refine wx_T_low M (shr (shr x1 4) 4) 3 (by decide) ?_
    show WX mi_T_turn 27 Q 102 [some (.ref 0), some (.int x1), some (.int (shr x1 4))] [.int (z_T_low (shr (shr x1 4) 4) 3), .int (z_T_low (shr (shr x1 4) 2) 3), .int ((shr x1 4) &&& 3), .ref 0] M
    refine WX.callV (ca := mi_C_lays) (n := 3) (d' := 5) (st := []) (As := [.int ((shr x1 4) &&& 3), .int (z_T_low (shr (shr x1 4) 2) 3), .int (z_T_low (shr (shr x1 4) 4) 3)]) (q := 0) rfl lk_10_19 ck_C_lays cv_C_lays rfl (by decide) rfl (Nat.le_of_ble_eq_true rfl) ⟨by decide, rfl, by decide⟩ (by intro w hw; simp only [List.mem_cons, List.not_mem_nil, or_false] at hw; rcases hw with rfl | rfl | rfl <;> rfl) (Nat.le_of_ble_eq_true rfl) ?_
    exact (h1 c1)
  · skip
    by_cases c2 : (x1 &&& 15) = 1
    · refine WX.tsw (tgt := 84) rfl (by decide) (by rw [c2]; decide) ?_
      refine WX.run (pc' := 92) (L' := [some (.ref 0), some (.int x1), some (.int (shr x1 4))]) (st' := [.int 3, .int (shr (shr x1 4) 2), .int ((shr x1 4) &&& 3), .ref 0]) (M' := M) (P := True) 8 rfl trivial ?_
      refine WX.callS (ca := mi_T_low) (n := 2) (d' := 1) (st := [.int ((shr x1 4) &&& 3), .ref 0]) (As := [.int (shr (shr x1 4) 2), .int 3]) rfl lk_10_74 ck_T_low cs_T_low rfl (by decide) rfl (Nat.le_of_ble_eq_true rfl) (by intro w hw; simp only [List.mem_cons, List.not_mem_nil, or_false] at hw; rcases hw with rfl | rfl <;> rfl) (Nat.le_of_ble_eq_true rfl) ?_
      refine wx_T_low M (shr (shr x1 4) 2) 3 (by decide) ?_
      show WX mi_T_turn 27 Q 95 [some (.ref 0), some (.int x1), some (.int (shr x1 4))] [.int (z_T_low (shr (shr x1 4) 2) 3), .int ((shr x1 4) &&& 3), .ref 0] M
      refine WX.run (pc' := 99) (L' := [some (.ref 0), some (.int x1), some (.int (shr x1 4))]) (st' := [.int 3, .int (shr (shr x1 4) 4), .int (z_T_low (shr (shr x1 4) 2) 3), .int ((shr x1 4) &&& 3), .ref 0]) (M' := M) (P := True) 4 rfl trivial ?_
      refine WX.callS (ca := mi_T_low) (n := 2) (d' := 1) (st := [.int (z_T_low (shr (shr x1 4) 2) 3), .int ((shr x1 4) &&& 3), .ref 0]) (As := [.int (shr (shr x1 4) 4), .int 3]) rfl lk_10_74 ck_T_low cs_T_low rfl (by decide) rfl (Nat.le_of_ble_eq_true rfl) (by intro w hw; simp only [List.mem_cons, List.not_mem_nil, or_false] at hw; rcases hw with rfl | rfl <;> rfl) (Nat.le_of_ble_eq_true rfl) ?_
      refine wx_T_low M (shr (shr x1 4) 4) 3 (by decide) ?_
      show WX mi_T_turn 27 Q 102 [some (.ref 0), some (.int x1), some (.int (shr x1 4))] [.int (z_T_low (shr (shr x1 4) 4) 3), .int (z_T_low (shr (shr x1 4) 2) 3), .int ((shr x1 4) &&& 3), .ref 0] M
      refine WX.callV (ca := mi_C_lays) (n := 3) (d' := 5) (st := []) (As := [.int ((shr x1 4) &&& 3), .int (z_T_low (shr (shr x1 4) 2) 3), .int (z_T_low (shr (shr x1 4) 4) 3)]) (q := 0) rfl lk_10_19 ck_C_lays cv_C_lays rfl (by decide) rfl (Nat.le_of_ble_eq_true rfl) ⟨by decide, rfl, by decide⟩ (by intro w hw; simp only [List.mem_cons, List.not_mem_nil, or_false] at hw; rcases hw with rfl | rfl | rfl <;> rfl) (Nat.le_of_ble_eq_true rfl) ?_
      exact (h2 c2)
    · skip
      by_cases c3 : (x1 &&& 15) = 2
      · refine WX.tsw (tgt := 84) rfl (by decide) (by rw [c3]; decide) ?_
        refine WX.run (pc' := 92) (L' := [some (.ref 0), some (.int x1), some (.int (shr x1 4))]) (st' := [.int 3, .int (shr (shr x1 4) 2), .int ((shr x1 4) &&& 3), .ref 0]) (M' := M) (P := True) 8 rfl trivial ?_
        refine WX.callS (ca := mi_T_low) (n := 2) (d' := 1) (st := [.int ((shr x1 4) &&& 3), .ref 0]) (As := [.int (shr (shr x1 4) 2), .int 3]) rfl lk_10_74 ck_T_low cs_T_low rfl (by decide) rfl (Nat.le_of_ble_eq_true rfl) (by intro w hw; simp only [List.mem_cons, List.not_mem_nil, or_false] at hw; rcases hw with rfl | rfl <;> rfl) (Nat.le_of_ble_eq_true rfl) ?_
        refine wx_T_low M (shr (shr x1 4) 2) 3 (by decide) ?_
        show WX mi_T_turn 27 Q 95 [some (.ref 0), some (.int x1), some (.int (shr x1 4))] [.int (z_T_low (shr (shr x1 4) 2) 3), .int ((shr x1 4) &&& 3), .ref 0] M
        refine WX.run (pc' := 99) (L' := [some (.ref 0), some (.int x1), some (.int (shr x1 4))]) (st' := [.int 3, .int (shr (shr x1 4) 4), .int (z_T_low (shr (shr x1 4) 2) 3), .int ((shr x1 4) &&& 3), .ref 0]) (M' := M) (P := True) 4 rfl trivial ?_
        refine WX.callS (ca := mi_T_low) (n := 2) (d' := 1) (st := [.int (z_T_low (shr (shr x1 4) 2) 3), .int ((shr x1 4) &&& 3), .ref 0]) (As := [.int (shr (shr x1 4) 4), .int 3]) rfl lk_10_74 ck_T_low cs_T_low rfl (by decide) rfl (Nat.le_of_ble_eq_true rfl) (by intro w hw; simp only [List.mem_cons, List.not_mem_nil, or_false] at hw; rcases hw with rfl | rfl <;> rfl) (Nat.le_of_ble_eq_true rfl) ?_
        refine wx_T_low M (shr (shr x1 4) 4) 3 (by decide) ?_
        show WX mi_T_turn 27 Q 102 [some (.ref 0), some (.int x1), some (.int (shr x1 4))] [.int (z_T_low (shr (shr x1 4) 4) 3), .int (z_T_low (shr (shr x1 4) 2) 3), .int ((shr x1 4) &&& 3), .ref 0] M
        refine WX.callV (ca := mi_C_lays) (n := 3) (d' := 5) (st := []) (As := [.int ((shr x1 4) &&& 3), .int (z_T_low (shr (shr x1 4) 2) 3), .int (z_T_low (shr (shr x1 4) 4) 3)]) (q := 0) rfl lk_10_19 ck_C_lays cv_C_lays rfl (by decide) rfl (Nat.le_of_ble_eq_true rfl) ⟨by decide, rfl, by decide⟩ (by intro w hw; simp only [List.mem_cons, List.not_mem_nil, or_false] at hw; rcases hw with rfl | rfl | rfl <;> rfl) (Nat.le_of_ble_eq_true rfl) ?_
        exact (h3 c3)
      · skip
        by_cases c4 : (x1 &&& 15) = 3
        · refine WX.tsw (tgt := 84) rfl (by decide) (by rw [c4]; decide) ?_
          refine WX.run (pc' := 92) (L' := [some (.ref 0), some (.int x1), some (.int (shr x1 4))]) (st' := [.int 3, .int (shr (shr x1 4) 2), .int ((shr x1 4) &&& 3), .ref 0]) (M' := M) (P := True) 8 rfl trivial ?_
          refine WX.callS (ca := mi_T_low) (n := 2) (d' := 1) (st := [.int ((shr x1 4) &&& 3), .ref 0]) (As := [.int (shr (shr x1 4) 2), .int 3]) rfl lk_10_74 ck_T_low cs_T_low rfl (by decide) rfl (Nat.le_of_ble_eq_true rfl) (by intro w hw; simp only [List.mem_cons, List.not_mem_nil, or_false] at hw; rcases hw with rfl | rfl <;> rfl) (Nat.le_of_ble_eq_true rfl) ?_
          refine wx_T_low M (shr (shr x1 4) 2) 3 (by decide) ?_
          show WX mi_T_turn 27 Q 95 [some (.ref 0), some (.int x1), some (.int (shr x1 4))] [.int (z_T_low (shr (shr x1 4) 2) 3), .int ((shr x1 4) &&& 3), .ref 0] M
          refine WX.run (pc' := 99) (L' := [some (.ref 0), some (.int x1), some (.int (shr x1 4))]) (st' := [.int 3, .int (shr (shr x1 4) 4), .int (z_T_low (shr (shr x1 4) 2) 3), .int ((shr x1 4) &&& 3), .ref 0]) (M' := M) (P := True) 4 rfl trivial ?_
          refine WX.callS (ca := mi_T_low) (n := 2) (d' := 1) (st := [.int (z_T_low (shr (shr x1 4) 2) 3), .int ((shr x1 4) &&& 3), .ref 0]) (As := [.int (shr (shr x1 4) 4), .int 3]) rfl lk_10_74 ck_T_low cs_T_low rfl (by decide) rfl (Nat.le_of_ble_eq_true rfl) (by intro w hw; simp only [List.mem_cons, List.not_mem_nil, or_false] at hw; rcases hw with rfl | rfl <;> rfl) (Nat.le_of_ble_eq_true rfl) ?_
          refine wx_T_low M (shr (shr x1 4) 4) 3 (by decide) ?_
          show WX mi_T_turn 27 Q 102 [some (.ref 0), some (.int x1), some (.int (shr x1 4))] [.int (z_T_low (shr (shr x1 4) 4) 3), .int (z_T_low (shr (shr x1 4) 2) 3), .int ((shr x1 4) &&& 3), .ref 0] M
          refine WX.callV (ca := mi_C_lays) (n := 3) (d' := 5) (st := []) (As := [.int ((shr x1 4) &&& 3), .int (z_T_low (shr (shr x1 4) 2) 3), .int (z_T_low (shr (shr x1 4) 4) 3)]) (q := 0) rfl lk_10_19 ck_C_lays cv_C_lays rfl (by decide) rfl (Nat.le_of_ble_eq_true rfl) ⟨by decide, rfl, by decide⟩ (by intro w hw; simp only [List.mem_cons, List.not_mem_nil, or_false] at hw; rcases hw with rfl | rfl | rfl <;> rfl) (Nat.le_of_ble_eq_true rfl) ?_
          exact (h4 c4)
        · skip
          by_cases c5 : (x1 &&& 15) = 4
          · refine WX.tsw (tgt := 106) rfl (by decide) (by rw [c5]; decide) ?_
            refine WX.run (pc' := 109) (L' := [some (.ref 0), some (.int x1), some (.int (shr x1 4))]) (st' := [.int 3, .int (shr x1 4), .ref 0]) (M' := M) (P := True) 3 rfl trivial ?_
            refine WX.callS (ca := mi_T_low) (n := 2) (d' := 1) (st := [.ref 0]) (As := [.int (shr x1 4), .int 3]) rfl lk_10_74 ck_T_low cs_T_low rfl (by decide) rfl (Nat.le_of_ble_eq_true rfl) (by intro w hw; simp only [List.mem_cons, List.not_mem_nil, or_false] at hw; rcases hw with rfl | rfl <;> rfl) (Nat.le_of_ble_eq_true rfl) ?_
            refine wx_T_low M (shr x1 4) 3 (by decide) ?_
            show WX mi_T_turn 27 Q 112 [some (.ref 0), some (.int x1), some (.int (shr x1 4))] [.int (z_T_low (shr x1 4) 3), .ref 0] M
            refine WX.run (pc' := 116) (L' := [some (.ref 0), some (.int x1), some (.int (shr x1 4))]) (st' := [.int 3, .int (shr (shr x1 4) 2), .int (z_T_low (shr x1 4) 3), .ref 0]) (M' := M) (P := True) 4 rfl trivial ?_
            refine WX.callS (ca := mi_T_low) (n := 2) (d' := 1) (st := [.int (z_T_low (shr x1 4) 3), .ref 0]) (As := [.int (shr (shr x1 4) 2), .int 3]) rfl lk_10_74 ck_T_low cs_T_low rfl (by decide) rfl (Nat.le_of_ble_eq_true rfl) (by intro w hw; simp only [List.mem_cons, List.not_mem_nil, or_false] at hw; rcases hw with rfl | rfl <;> rfl) (Nat.le_of_ble_eq_true rfl) ?_
            refine wx_T_low M (shr (shr x1 4) 2) 3 (by decide) ?_
            show WX mi_T_turn 27 Q 119 [some (.ref 0), some (.int x1), some (.int (shr x1 4))] [.int (z_T_low (shr (shr x1 4) 2) 3), .int (z_T_low (shr x1 4) 3), .ref 0] M
            refine WX.callV (ca := mi_C_lifts) (n := 2) (d' := 5) (st := []) (As := [.int (z_T_low (shr x1 4) 3), .int (z_T_low (shr (shr x1 4) 2) 3)]) (q := 0) rfl lk_10_22 ck_C_lifts cv_C_lifts rfl (by decide) rfl (Nat.le_of_ble_eq_true rfl) ⟨by decide, rfl, by decide⟩ (by intro w hw; simp only [List.mem_cons, List.not_mem_nil, or_false] at hw; rcases hw with rfl | rfl <;> rfl) (Nat.le_of_ble_eq_true rfl) ?_
            exact (h5 c5)
          · skip
            by_cases c6 : (x1 &&& 15) = 5
            · refine WX.tsw (tgt := 106) rfl (by decide) (by rw [c6]; decide) ?_
              refine WX.run (pc' := 109) (L' := [some (.ref 0), some (.int x1), some (.int (shr x1 4))]) (st' := [.int 3, .int (shr x1 4), .ref 0]) (M' := M) (P := True) 3 rfl trivial ?_
              refine WX.callS (ca := mi_T_low) (n := 2) (d' := 1) (st := [.ref 0]) (As := [.int (shr x1 4), .int 3]) rfl lk_10_74 ck_T_low cs_T_low rfl (by decide) rfl (Nat.le_of_ble_eq_true rfl) (by intro w hw; simp only [List.mem_cons, List.not_mem_nil, or_false] at hw; rcases hw with rfl | rfl <;> rfl) (Nat.le_of_ble_eq_true rfl) ?_
              refine wx_T_low M (shr x1 4) 3 (by decide) ?_
              show WX mi_T_turn 27 Q 112 [some (.ref 0), some (.int x1), some (.int (shr x1 4))] [.int (z_T_low (shr x1 4) 3), .ref 0] M
              refine WX.run (pc' := 116) (L' := [some (.ref 0), some (.int x1), some (.int (shr x1 4))]) (st' := [.int 3, .int (shr (shr x1 4) 2), .int (z_T_low (shr x1 4) 3), .ref 0]) (M' := M) (P := True) 4 rfl trivial ?_
              refine WX.callS (ca := mi_T_low) (n := 2) (d' := 1) (st := [.int (z_T_low (shr x1 4) 3), .ref 0]) (As := [.int (shr (shr x1 4) 2), .int 3]) rfl lk_10_74 ck_T_low cs_T_low rfl (by decide) rfl (Nat.le_of_ble_eq_true rfl) (by intro w hw; simp only [List.mem_cons, List.not_mem_nil, or_false] at hw; rcases hw with rfl | rfl <;> rfl) (Nat.le_of_ble_eq_true rfl) ?_
              refine wx_T_low M (shr (shr x1 4) 2) 3 (by decide) ?_
              show WX mi_T_turn 27 Q 119 [some (.ref 0), some (.int x1), some (.int (shr x1 4))] [.int (z_T_low (shr (shr x1 4) 2) 3), .int (z_T_low (shr x1 4) 3), .ref 0] M
              refine WX.callV (ca := mi_C_lifts) (n := 2) (d' := 5) (st := []) (As := [.int (z_T_low (shr x1 4) 3), .int (z_T_low (shr (shr x1 4) 2) 3)]) (q := 0) rfl lk_10_22 ck_C_lifts cv_C_lifts rfl (by decide) rfl (Nat.le_of_ble_eq_true rfl) ⟨by decide, rfl, by decide⟩ (by intro w hw; simp only [List.mem_cons, List.not_mem_nil, or_false] at hw; rcases hw with rfl | rfl <;> rfl) (Nat.le_of_ble_eq_true rfl) ?_
              exact (h6 c6)
            · skip
              by_cases c7 : (x1 &&& 15) = 6
              · refine WX.tsw (tgt := 123) rfl (by decide) (by rw [c7]; decide) ?_
                refine WX.run (pc' := 126) (L' := [some (.ref 0), some (.int x1), some (.int (shr x1 4))]) (st' := [.int 3, .int (shr x1 4), .ref 0]) (M' := M) (P := True) 3 rfl trivial ?_
                refine WX.callS (ca := mi_T_low) (n := 2) (d' := 1) (st := [.ref 0]) (As := [.int (shr x1 4), .int 3]) rfl lk_10_74 ck_T_low cs_T_low rfl (by decide) rfl (Nat.le_of_ble_eq_true rfl) (by intro w hw; simp only [List.mem_cons, List.not_mem_nil, or_false] at hw; rcases hw with rfl | rfl <;> rfl) (Nat.le_of_ble_eq_true rfl) ?_
                refine wx_T_low M (shr x1 4) 3 (by decide) ?_
                show WX mi_T_turn 27 Q 129 [some (.ref 0), some (.int x1), some (.int (shr x1 4))] [.int (z_T_low (shr x1 4) 3), .ref 0] M
                refine WX.run (pc' := 133) (L' := [some (.ref 0), some (.int x1), some (.int (shr x1 4))]) (st' := [.int 3, .int (shr (shr x1 4) 2), .int (z_T_low (shr x1 4) 3), .ref 0]) (M' := M) (P := True) 4 rfl trivial ?_
                refine WX.callS (ca := mi_T_low) (n := 2) (d' := 1) (st := [.int (z_T_low (shr x1 4) 3), .ref 0]) (As := [.int (shr (shr x1 4) 2), .int 3]) rfl lk_10_74 ck_T_low cs_T_low rfl (by decide) rfl (Nat.le_of_ble_eq_true rfl) (by intro w hw; simp only [List.mem_cons, List.not_mem_nil, or_false] at hw; rcases hw with rfl | rfl <;> rfl) (Nat.le_of_ble_eq_true rfl) ?_
                refine wx_T_low M (shr (shr x1 4) 2) 3 (by decide) ?_
                show WX mi_T_turn 27 Q 136 [some (.ref 0), some (.int x1), some (.int (shr x1 4))] [.int (z_T_low (shr (shr x1 4) 2) 3), .int (z_T_low (shr x1 4) 3), .ref 0] M
                refine WX.run (pc' := 141) (L' := [some (.ref 0), some (.int x1), some (.int (shr x1 4))]) (st' := [.int 10, .int (shr (shr x1 4) 4), .int (z_T_low (shr (shr x1 4) 2) 3), .int (z_T_low (shr x1 4) 3), .ref 0]) (M' := M) (P := True) 4 rfl trivial ?_
                refine WX.callS (ca := mi_T_low) (n := 2) (d' := 1) (st := [.int (z_T_low (shr (shr x1 4) 2) 3), .int (z_T_low (shr x1 4) 3), .ref 0]) (As := [.int (shr (shr x1 4) 4), .int 10]) rfl lk_10_74 ck_T_low cs_T_low rfl (by decide) rfl (Nat.le_of_ble_eq_true rfl) (by intro w hw; simp only [List.mem_cons, List.not_mem_nil, or_false] at hw; rcases hw with rfl | rfl <;> rfl) (Nat.le_of_ble_eq_true rfl) ?_
                refine wx_T_low M (shr (shr x1 4) 4) 10 (by decide) ?_
                show WX mi_T_turn 27 Q 144 [some (.ref 0), some (.int x1), some (.int (shr x1 4))] [.int (z_T_low (shr (shr x1 4) 4) 10), .int (z_T_low (shr (shr x1 4) 2) 3), .int (z_T_low (shr x1 4) 3), .ref 0] M
                refine WX.callV (ca := mi_C_raises) (n := 3) (d' := 4) (st := []) (As := [.int (z_T_low (shr x1 4) 3), .int (z_T_low (shr (shr x1 4) 2) 3), .int (z_T_low (shr (shr x1 4) 4) 10)]) (q := 0) rfl lk_10_26 ck_C_raises cv_C_raises rfl (by decide) rfl (Nat.le_of_ble_eq_true rfl) ⟨by decide, rfl, by decide⟩ (by intro w hw; simp only [List.mem_cons, List.not_mem_nil, or_false] at hw; rcases hw with rfl | rfl | rfl <;> rfl) (Nat.le_of_ble_eq_true rfl) ?_
                exact (h7 c7)
              · skip
                by_cases c8 : (x1 &&& 15) = 7
                · refine WX.tsw (tgt := 123) rfl (by decide) (by rw [c8]; decide) ?_
                  refine WX.run (pc' := 126) (L' := [some (.ref 0), some (.int x1), some (.int (shr x1 4))]) (st' := [.int 3, .int (shr x1 4), .ref 0]) (M' := M) (P := True) 3 rfl trivial ?_
                  refine WX.callS (ca := mi_T_low) (n := 2) (d' := 1) (st := [.ref 0]) (As := [.int (shr x1 4), .int 3]) rfl lk_10_74 ck_T_low cs_T_low rfl (by decide) rfl (Nat.le_of_ble_eq_true rfl) (by intro w hw; simp only [List.mem_cons, List.not_mem_nil, or_false] at hw; rcases hw with rfl | rfl <;> rfl) (Nat.le_of_ble_eq_true rfl) ?_
                  refine wx_T_low M (shr x1 4) 3 (by decide) ?_
                  show WX mi_T_turn 27 Q 129 [some (.ref 0), some (.int x1), some (.int (shr x1 4))] [.int (z_T_low (shr x1 4) 3), .ref 0] M
                  refine WX.run (pc' := 133) (L' := [some (.ref 0), some (.int x1), some (.int (shr x1 4))]) (st' := [.int 3, .int (shr (shr x1 4) 2), .int (z_T_low (shr x1 4) 3), .ref 0]) (M' := M) (P := True) 4 rfl trivial ?_
                  refine WX.callS (ca := mi_T_low) (n := 2) (d' := 1) (st := [.int (z_T_low (shr x1 4) 3), .ref 0]) (As := [.int (shr (shr x1 4) 2), .int 3]) rfl lk_10_74 ck_T_low cs_T_low rfl (by decide) rfl (Nat.le_of_ble_eq_true rfl) (by intro w hw; simp only [List.mem_cons, List.not_mem_nil, or_false] at hw; rcases hw with rfl | rfl <;> rfl) (Nat.le_of_ble_eq_true rfl) ?_
                  refine wx_T_low M (shr (shr x1 4) 2) 3 (by decide) ?_
                  show WX mi_T_turn 27 Q 136 [some (.ref 0), some (.int x1), some (.int (shr x1 4))] [.int (z_T_low (shr (shr x1 4) 2) 3), .int (z_T_low (shr x1 4) 3), .ref 0] M
                  refine WX.run (pc' := 141) (L' := [some (.ref 0), some (.int x1), some (.int (shr x1 4))]) (st' := [.int 10, .int (shr (shr x1 4) 4), .int (z_T_low (shr (shr x1 4) 2) 3), .int (z_T_low (shr x1 4) 3), .ref 0]) (M' := M) (P := True) 4 rfl trivial ?_
                  refine WX.callS (ca := mi_T_low) (n := 2) (d' := 1) (st := [.int (z_T_low (shr (shr x1 4) 2) 3), .int (z_T_low (shr x1 4) 3), .ref 0]) (As := [.int (shr (shr x1 4) 4), .int 10]) rfl lk_10_74 ck_T_low cs_T_low rfl (by decide) rfl (Nat.le_of_ble_eq_true rfl) (by intro w hw; simp only [List.mem_cons, List.not_mem_nil, or_false] at hw; rcases hw with rfl | rfl <;> rfl) (Nat.le_of_ble_eq_true rfl) ?_
                  refine wx_T_low M (shr (shr x1 4) 4) 10 (by decide) ?_
                  show WX mi_T_turn 27 Q 144 [some (.ref 0), some (.int x1), some (.int (shr x1 4))] [.int (z_T_low (shr (shr x1 4) 4) 10), .int (z_T_low (shr (shr x1 4) 2) 3), .int (z_T_low (shr x1 4) 3), .ref 0] M
                  refine WX.callV (ca := mi_C_raises) (n := 3) (d' := 4) (st := []) (As := [.int (z_T_low (shr x1 4) 3), .int (z_T_low (shr (shr x1 4) 2) 3), .int (z_T_low (shr (shr x1 4) 4) 10)]) (q := 0) rfl lk_10_26 ck_C_raises cv_C_raises rfl (by decide) rfl (Nat.le_of_ble_eq_true rfl) ⟨by decide, rfl, by decide⟩ (by intro w hw; simp only [List.mem_cons, List.not_mem_nil, or_false] at hw; rcases hw with rfl | rfl | rfl <;> rfl) (Nat.le_of_ble_eq_true rfl) ?_
                  exact (h8 c8)
                · skip
                  by_cases c9 : (x1 &&& 15) = 8
                  · refine WX.tsw (tgt := 148) rfl (by decide) (by rw [c9]; decide) ?_
                    refine WX.run (pc' := 149) (L' := [some (.ref 0), some (.int x1), some (.int (shr x1 4))]) (st' := [.ref 0]) (M' := M) (P := True) 1 rfl trivial ?_
                    refine WX.callV (ca := mi_C_day) (n := 0) (d' := 3) (st := []) (As := []) (q := 0) rfl lk_10_79 ck_C_day cv_C_day rfl (by decide) rfl (Nat.le_of_ble_eq_true rfl) ⟨by decide, rfl, by decide⟩ (fun w hw => absurd hw List.not_mem_nil) (Nat.le_of_ble_eq_true rfl) ?_
                    exact (h9 c9)
                  · skip
                    by_cases c10 : (x1 &&& 15) = 9
                    · refine WX.tsw (tgt := 153) rfl (by decide) (by rw [c10]; decide) ?_
                      refine WX.run (pc' := 154) (L' := [some (.ref 0), some (.int x1), some (.int (shr x1 4))]) (st' := [.ref 0]) (M' := M) (P := True) 1 rfl trivial ?_
                      refine WX.callV (ca := mi_C_undo) (n := 0) (d' := 5) (st := []) (As := []) (q := 0) rfl lk_10_82 ck_C_undo cv_C_undo rfl (by decide) rfl (Nat.le_of_ble_eq_true rfl) ⟨by decide, rfl, by decide⟩ (fun w hw => absurd hw List.not_mem_nil) (Nat.le_of_ble_eq_true rfl) ?_
                      exact (h10 c10)
                    · skip
                      by_cases c11 : (x1 &&& 15) = 10
                      · refine WX.tsw (tgt := 153) rfl (by decide) (by rw [c11]; decide) ?_
                        refine WX.run (pc' := 154) (L' := [some (.ref 0), some (.int x1), some (.int (shr x1 4))]) (st' := [.ref 0]) (M' := M) (P := True) 1 rfl trivial ?_
                        refine WX.callV (ca := mi_C_undo) (n := 0) (d' := 5) (st := []) (As := []) (q := 0) rfl lk_10_82 ck_C_undo cv_C_undo rfl (by decide) rfl (Nat.le_of_ble_eq_true rfl) ⟨by decide, rfl, by decide⟩ (fun w hw => absurd hw List.not_mem_nil) (Nat.le_of_ble_eq_true rfl) ?_
                        exact (h11 c11)
                      · skip
                        by_cases c12 : (x1 &&& 15) = 11
                        · refine WX.tsw (tgt := 158) rfl (by decide) (by rw [c12]; decide) ?_
                          refine WX.run (pc' := 161) (L' := [some (.ref 0), some (.int x1), some (.int (shr x1 4))]) (st' := [.int ((shr x1 4) &&& 1)]) (M' := M) (P := True) 3 rfl trivial ?_
                          refine WX.if_ne (off := 15) (tgt := 176) rfl rfl (fun c13 => ?_) (fun c13 => ?_)
                          · refine WX.run (pc' := 182) (L' := [some (.ref 0), some (.int x1), some (.int (shr x1 4))]) (st' := [.int ((shr (shr x1 4) 1) &&& 1), .ref 0]) (M' := M) (P := True) 6 rfl trivial ?_
                            refine WX.callV (ca := mi_C_back) (n := 1) (d' := 2) (st := []) (As := [.int ((shr (shr x1 4) 1) &&& 1)]) (q := 0) rfl lk_10_64 ck_C_back cv_C_back rfl (by decide) rfl (Nat.le_of_ble_eq_true rfl) ⟨by decide, rfl, by decide⟩ (by intro w hw; simp only [List.mem_cons, List.not_mem_nil, or_false] at hw; rcases hw with rfl <;> rfl) (Nat.le_of_ble_eq_true rfl) ?_
                            exact (h12 c12 c13)
                          · refine WX.run (pc' := 170) (L' := [some (.ref 0), some (.int x1), some (.int (shr x1 4))]) (st' := [.int ((shr (shr x1 4) 1) &&& 1), .ref 0]) (M' := M) (P := True) 6 rfl trivial ?_
                            refine WX.callV (ca := mi_C_keep) (n := 1) (d' := 2) (st := []) (As := [.int ((shr (shr x1 4) 1) &&& 1)]) (q := 0) rfl lk_10_61 ck_C_keep cv_C_keep rfl (by decide) rfl (Nat.le_of_ble_eq_true rfl) ⟨by decide, rfl, by decide⟩ (by intro w hw; simp only [List.mem_cons, List.not_mem_nil, or_false] at hw; rcases hw with rfl <;> rfl) (Nat.le_of_ble_eq_true rfl) ?_
                            exact (h13 c12 c13)
                        · skip
                          by_cases c14 : (x1 &&& 15) = 12
                          · refine WX.tsw (tgt := 186) rfl (by decide) (by rw [c14]; decide) ?_
                            refine WX.run (pc' := 190) (L' := [some (.ref 0), some (.int x1), some (.int (shr x1 4))]) (st' := [.int ((shr x1 4) &&& 7)]) (M' := M) (P := True) 3 rfl trivial ?_
                            refine WX.if_ne (off := 18) (tgt := 208) rfl rfl (fun c15 => ?_) (fun c15 => ?_)
                            · refine WX.run (pc' := 213) (L' := [some (.ref 0), some (.int x1), some (.int (shr x1 4))]) (st' := [.int 1, .int ((shr x1 4) &&& 7)]) (M' := M) (P := True) 4 rfl trivial ?_
                              refine WX.icmp_ne (off := 10) (tgt := 223) rfl rfl (fun c16 => ?_) (fun c16 => ?_)
                              · refine WX.run (pc' := 228) (L' := [some (.ref 0), some (.int x1), some (.int (shr x1 4))]) (st' := [.int 3, .int (shr (shr x1 4) 3), .ref 0]) (M' := M) (P := True) 5 rfl trivial ?_
                                refine WX.callS (ca := mi_T_low) (n := 2) (d' := 1) (st := [.ref 0]) (As := [.int (shr (shr x1 4) 3), .int 3]) rfl lk_10_74 ck_T_low cs_T_low rfl (by decide) rfl (Nat.le_of_ble_eq_true rfl) (by intro w hw; simp only [List.mem_cons, List.not_mem_nil, or_false] at hw; rcases hw with rfl | rfl <;> rfl) (Nat.le_of_ble_eq_true rfl) ?_
                                refine wx_T_low M (shr (shr x1 4) 3) 3 (by decide) ?_
                                show WX mi_T_turn 27 Q 231 [some (.ref 0), some (.int x1), some (.int (shr x1 4))] [.int (z_T_low (shr (shr x1 4) 3) 3), .ref 0] M
                                refine WX.run (pc' := 235) (L' := [some (.ref 0), some (.int x1), some (.int (shr x1 4))]) (st' := [.int 3, .int (shr (shr x1 4) 5), .int (z_T_low (shr (shr x1 4) 3) 3), .ref 0]) (M' := M) (P := True) 4 rfl trivial ?_
                                refine WX.callS (ca := mi_T_low) (n := 2) (d' := 1) (st := [.int (z_T_low (shr (shr x1 4) 3) 3), .ref 0]) (As := [.int (shr (shr x1 4) 5), .int 3]) rfl lk_10_74 ck_T_low cs_T_low rfl (by decide) rfl (Nat.le_of_ble_eq_true rfl) (by intro w hw; simp only [List.mem_cons, List.not_mem_nil, or_false] at hw; rcases hw with rfl | rfl <;> rfl) (Nat.le_of_ble_eq_true rfl) ?_
                                refine wx_T_low M (shr (shr x1 4) 5) 3 (by decide) ?_
                                show WX mi_T_turn 27 Q 238 [some (.ref 0), some (.int x1), some (.int (shr x1 4))] [.int (z_T_low (shr (shr x1 4) 5) 3), .int (z_T_low (shr (shr x1 4) 3) 3), .ref 0] M
                                refine WX.callV (ca := mi_C_saw) (n := 2) (d' := 3) (st := []) (As := [.int (z_T_low (shr (shr x1 4) 3) 3), .int (z_T_low (shr (shr x1 4) 5) 3)]) (q := 0) rfl lk_10_54 ck_C_saw cv_C_saw rfl (by decide) rfl (Nat.le_of_ble_eq_true rfl) ⟨by decide, rfl, by decide⟩ (by intro w hw; simp only [List.mem_cons, List.not_mem_nil, or_false] at hw; rcases hw with rfl | rfl <;> rfl) (Nat.le_of_ble_eq_true rfl) ?_
                                exact (h14 c14 c15 c16)
                              · refine WX.run (pc' := 217) (L' := [some (.ref 0), some (.int x1), some (.int (shr x1 4))]) (st' := [.ref 0]) (M' := M) (P := True) 1 rfl trivial ?_
                                refine WX.callV (ca := mi_C_forget) (n := 0) (d' := 1) (st := []) (As := []) (q := 0) rfl lk_10_88 ck_C_forget cv_C_forget rfl (by decide) rfl (Nat.le_of_ble_eq_true rfl) ⟨by decide, rfl, by decide⟩ (fun w hw => absurd hw List.not_mem_nil) (Nat.le_of_ble_eq_true rfl) ?_
                                exact (h15 c14 c15 c16)
                            · refine WX.run (pc' := 194) (L' := [some (.ref 0), some (.int x1), some (.int (shr x1 4))]) (st' := [.ref 0]) (M' := M) (P := True) 1 rfl trivial ?_
                              refine WX.callS (ca := mi_T_yard) (n := 1) (d' := 8) (st := []) (As := [.ref 0]) rfl lk_10_85 ck_T_yard cs_T_yard rfl (by decide) rfl (Nat.le_of_ble_eq_true rfl) (by intro w hw; simp only [List.mem_cons, List.not_mem_nil, or_false] at hw; rcases hw with rfl <;> rfl) (Nat.le_of_ble_eq_true rfl) ?_
                              exact (h16 c14 c15)
                          · skip
                            by_cases c17 : (x1 &&& 15) = 13
                            · refine WX.tsw (tgt := 242) rfl (by decide) (by rw [c17]; decide) ?_
                              refine WX.run (pc' := 246) (L' := [some (.ref 0), some (.int x1), some (.int (shr x1 4))]) (st' := [.int 6, .int (shr x1 4), .ref 0]) (M' := M) (P := True) 3 rfl trivial ?_
                              refine WX.callS (ca := mi_T_low) (n := 2) (d' := 1) (st := [.ref 0]) (As := [.int (shr x1 4), .int 6]) rfl lk_10_74 ck_T_low cs_T_low rfl (by decide) rfl (Nat.le_of_ble_eq_true rfl) (by intro w hw; simp only [List.mem_cons, List.not_mem_nil, or_false] at hw; rcases hw with rfl | rfl <;> rfl) (Nat.le_of_ble_eq_true rfl) ?_
                              refine wx_T_low M (shr x1 4) 6 (by decide) ?_
                              show WX mi_T_turn 27 Q 249 [some (.ref 0), some (.int x1), some (.int (shr x1 4))] [.int (z_T_low (shr x1 4) 6), .ref 0] M
                              refine WX.run (pc' := 253) (L' := [some (.ref 0), some (.int x1), some (.int (shr x1 4))]) (st' := [.int 3, .int (shr (shr x1 4) 3), .int (z_T_low (shr x1 4) 6), .ref 0]) (M' := M) (P := True) 4 rfl trivial ?_
                              refine WX.callS (ca := mi_T_low) (n := 2) (d' := 1) (st := [.int (z_T_low (shr x1 4) 6), .ref 0]) (As := [.int (shr (shr x1 4) 3), .int 3]) rfl lk_10_74 ck_T_low cs_T_low rfl (by decide) rfl (Nat.le_of_ble_eq_true rfl) (by intro w hw; simp only [List.mem_cons, List.not_mem_nil, or_false] at hw; rcases hw with rfl | rfl <;> rfl) (Nat.le_of_ble_eq_true rfl) ?_
                              refine wx_T_low M (shr (shr x1 4) 3) 3 (by decide) ?_
                              show WX mi_T_turn 27 Q 256 [some (.ref 0), some (.int x1), some (.int (shr x1 4))] [.int (z_T_low (shr (shr x1 4) 3) 3), .int (z_T_low (shr x1 4) 6), .ref 0] M
                              refine WX.run (pc' := 260) (L' := [some (.ref 0), some (.int x1), some (.int (shr x1 4))]) (st' := [.int 3, .int (shr (shr x1 4) 5), .int (z_T_low (shr (shr x1 4) 3) 3), .int (z_T_low (shr x1 4) 6), .ref 0]) (M' := M) (P := True) 4 rfl trivial ?_
                              refine WX.callS (ca := mi_T_low) (n := 2) (d' := 1) (st := [.int (z_T_low (shr (shr x1 4) 3) 3), .int (z_T_low (shr x1 4) 6), .ref 0]) (As := [.int (shr (shr x1 4) 5), .int 3]) rfl lk_10_74 ck_T_low cs_T_low rfl (by decide) rfl (Nat.le_of_ble_eq_true rfl) (by intro w hw; simp only [List.mem_cons, List.not_mem_nil, or_false] at hw; rcases hw with rfl | rfl <;> rfl) (Nat.le_of_ble_eq_true rfl) ?_
                              refine wx_T_low M (shr (shr x1 4) 5) 3 (by decide) ?_
                              show WX mi_T_turn 27 Q 263 [some (.ref 0), some (.int x1), some (.int (shr x1 4))] [.int (z_T_low (shr (shr x1 4) 5) 3), .int (z_T_low (shr (shr x1 4) 3) 3), .int (z_T_low (shr x1 4) 6), .ref 0] M
                              refine WX.callV (ca := mi_C_mark) (n := 3) (d' := 6) (st := []) (As := [.int (z_T_low (shr x1 4) 6), .int (z_T_low (shr (shr x1 4) 3) 3), .int (z_T_low (shr (shr x1 4) 5) 3)]) (q := 0) rfl lk_10_57 ck_C_mark cv_C_mark rfl (by decide) rfl (Nat.le_of_ble_eq_true rfl) ⟨by decide, rfl, by decide⟩ (by intro w hw; simp only [List.mem_cons, List.not_mem_nil, or_false] at hw; rcases hw with rfl | rfl | rfl <;> rfl) (Nat.le_of_ble_eq_true rfl) ?_
                              exact (h17 c17)
                            · skip
                              by_cases c18 : (x1 &&& 15) = 14
                              · refine WX.tsw (tgt := 267) rfl (by decide) (by rw [c18]; decide) ?_
                                refine WX.run (pc' := 270) (L' := [some (.ref 0), some (.int x1), some (.int (shr x1 4))]) (st' := [.int ((shr x1 4) &&& 1)]) (M' := M) (P := True) 3 rfl trivial ?_
                                refine WX.if_ne (off := 20) (tgt := 290) rfl rfl (fun c19 => ?_) (fun c19 => ?_)
                                · refine WX.run (pc' := 295) (L' := [some (.ref 0), some (.int x1), some (.int (shr x1 4))]) (st' := [.int 3, .int (shr (shr x1 4) 1), .ref 0]) (M' := M) (P := True) 5 rfl trivial ?_
                                  refine WX.callS (ca := mi_T_low) (n := 2) (d' := 1) (st := [.ref 0]) (As := [.int (shr (shr x1 4) 1), .int 3]) rfl lk_10_74 ck_T_low cs_T_low rfl (by decide) rfl (Nat.le_of_ble_eq_true rfl) (by intro w hw; simp only [List.mem_cons, List.not_mem_nil, or_false] at hw; rcases hw with rfl | rfl <;> rfl) (Nat.le_of_ble_eq_true rfl) ?_
                                  refine wx_T_low M (shr (shr x1 4) 1) 3 (by decide) ?_
                                  show WX mi_T_turn 27 Q 298 [some (.ref 0), some (.int x1), some (.int (shr x1 4))] [.int (z_T_low (shr (shr x1 4) 1) 3), .ref 0] M
                                  refine WX.callV (ca := mi_C_mend) (n := 1) (d' := 5) (st := []) (As := [.int (z_T_low (shr (shr x1 4) 1) 3)]) (q := 0) rfl lk_10_41 ck_C_mend cv_C_mend rfl (by decide) rfl (Nat.le_of_ble_eq_true rfl) ⟨by decide, rfl, by decide⟩ (by intro w hw; simp only [List.mem_cons, List.not_mem_nil, or_false] at hw; rcases hw with rfl <;> rfl) (Nat.le_of_ble_eq_true rfl) ?_
                                  exact (h18 c18 c19)
                                · refine WX.run (pc' := 279) (L' := [some (.ref 0), some (.int x1), some (.int (shr x1 4))]) (st' := [.int 12, .int (shr (shr x1 4) 1), .ref 0]) (M' := M) (P := True) 5 rfl trivial ?_
                                  refine WX.callS (ca := mi_T_low) (n := 2) (d' := 1) (st := [.ref 0]) (As := [.int (shr (shr x1 4) 1), .int 12]) rfl lk_10_74 ck_T_low cs_T_low rfl (by decide) rfl (Nat.le_of_ble_eq_true rfl) (by intro w hw; simp only [List.mem_cons, List.not_mem_nil, or_false] at hw; rcases hw with rfl | rfl <;> rfl) (Nat.le_of_ble_eq_true rfl) ?_
                                  refine wx_T_low M (shr (shr x1 4) 1) 12 (by decide) ?_
                                  show WX mi_T_turn 27 Q 282 [some (.ref 0), some (.int x1), some (.int (shr x1 4))] [.int (z_T_low (shr (shr x1 4) 1) 12), .ref 0] M
                                  refine WX.run (pc' := 284) (L' := [some (.ref 0), some (.int x1), some (.int (shr x1 4))]) (st' := [.int ((z_T_low (shr (shr x1 4) 1) 12) - 1), .ref 0]) (M' := M) (P := True) 2 rfl trivial ?_
                                  refine WX.callV (ca := mi_C_plan) (n := 1) (d' := 26) (st := []) (As := [.int ((z_T_low (shr (shr x1 4) 1) 12) - 1)]) (q := 0) rfl lk_10_44 ck_C_plan cv_C_plan rfl (by decide) rfl (Nat.le_of_ble_eq_true rfl) ⟨by decide, rfl, by decide⟩ (by intro w hw; simp only [List.mem_cons, List.not_mem_nil, or_false] at hw; rcases hw with rfl <;> rfl) (Nat.le_of_ble_eq_true rfl) ?_
                                  exact (h19 c18 c19)
                              · skip
                                refine WX.tsw (tgt := 302) rfl (by decide) (by
                                      by_cases hr : ((x1 &&& 15)).toInt < 0 ∨ 14 < ((x1 &&& 15)).toInt
                                      · unfold tswo; rw [if_pos hr]; rfl
                                      · have hh : ((x1 &&& 15)).toInt = 0 ∨ ((x1 &&& 15)).toInt = 1 ∨ ((x1 &&& 15)).toInt = 2 ∨ ((x1 &&& 15)).toInt = 3 ∨ ((x1 &&& 15)).toInt = 4 ∨ ((x1 &&& 15)).toInt = 5 ∨ ((x1 &&& 15)).toInt = 6 ∨ ((x1 &&& 15)).toInt = 7 ∨ ((x1 &&& 15)).toInt = 8 ∨ ((x1 &&& 15)).toInt = 9 ∨ ((x1 &&& 15)).toInt = 10 ∨ ((x1 &&& 15)).toInt = 11 ∨ ((x1 &&& 15)).toInt = 12 ∨ ((x1 &&& 15)).toInt = 13 ∨ ((x1 &&& 15)).toInt = 14 := by omega
                                        rcases hh with hh | hh | hh | hh | hh | hh | hh | hh | hh | hh | hh | hh | hh | hh | hh
                                        · exact absurd hh (i32_ne c1 (by decide))
                                        · exact absurd hh (i32_ne c2 (by decide))
                                        · exact absurd hh (i32_ne c3 (by decide))
                                        · exact absurd hh (i32_ne c4 (by decide))
                                        · exact absurd hh (i32_ne c5 (by decide))
                                        · exact absurd hh (i32_ne c6 (by decide))
                                        · exact absurd hh (i32_ne c7 (by decide))
                                        · exact absurd hh (i32_ne c8 (by decide))
                                        · exact absurd hh (i32_ne c9 (by decide))
                                        · exact absurd hh (i32_ne c10 (by decide))
                                        · exact absurd hh (i32_ne c11 (by decide))
                                        · exact absurd hh (i32_ne c12 (by decide))
                                        · exact absurd hh (i32_ne c14 (by decide))
                                        · exact absurd hh (i32_ne c17 (by decide))
                                        · exact absurd hh (i32_ne c18 (by decide))) ?_
                                refine WX.run (pc' := 305) (L' := [some (.ref 0), some (.int x1), some (.int (shr x1 4))]) (st' := [.int ((shr x1 4) &&& 1)]) (M' := M) (P := True) 3 rfl trivial ?_
                                refine WX.if_ne (off := 24) (tgt := 329) rfl rfl (fun c20 => ?_) (fun c20 => ?_)
                                · refine WX.run (pc' := 330) (L' := [some (.ref 0), some (.int x1), some (.int (shr x1 4))]) (st' := [.ref 0]) (M' := M) (P := True) 1 rfl trivial ?_
                                  refine WX.callV (ca := mi_C_from) (n := 0) (d' := 5) (st := []) (As := []) (q := 0) rfl lk_10_91 ck_C_from cv_C_from rfl (by decide) rfl (Nat.le_of_ble_eq_true rfl) ⟨by decide, rfl, by decide⟩ (fun w hw => absurd hw List.not_mem_nil) (Nat.le_of_ble_eq_true rfl) ?_
                                  exact (h20 c1 c2 c3 c4 c5 c6 c7 c8 c9 c10 c11 c12 c14 c17 c18 c20)
                                · refine WX.run (pc' := 313) (L' := [some (.ref 0), some (.int x1), some (.int (shr x1 4))]) (st' := [.int 3, .int (shr (shr x1 4) 1), .ref 0]) (M' := M) (P := True) 5 rfl trivial ?_
                                  refine WX.callS (ca := mi_T_low) (n := 2) (d' := 1) (st := [.ref 0]) (As := [.int (shr (shr x1 4) 1), .int 3]) rfl lk_10_74 ck_T_low cs_T_low rfl (by decide) rfl (Nat.le_of_ble_eq_true rfl) (by intro w hw; simp only [List.mem_cons, List.not_mem_nil, or_false] at hw; rcases hw with rfl | rfl <;> rfl) (Nat.le_of_ble_eq_true rfl) ?_
                                  refine wx_T_low M (shr (shr x1 4) 1) 3 (by decide) ?_
                                  show WX mi_T_turn 27 Q 316 [some (.ref 0), some (.int x1), some (.int (shr x1 4))] [.int (z_T_low (shr (shr x1 4) 1) 3), .ref 0] M
                                  refine WX.run (pc' := 320) (L' := [some (.ref 0), some (.int x1), some (.int (shr x1 4))]) (st' := [.int 3, .int (shr (shr x1 4) 3), .int (z_T_low (shr (shr x1 4) 1) 3), .ref 0]) (M' := M) (P := True) 4 rfl trivial ?_
                                  refine WX.callS (ca := mi_T_low) (n := 2) (d' := 1) (st := [.int (z_T_low (shr (shr x1 4) 1) 3), .ref 0]) (As := [.int (shr (shr x1 4) 3), .int 3]) rfl lk_10_74 ck_T_low cs_T_low rfl (by decide) rfl (Nat.le_of_ble_eq_true rfl) (by intro w hw; simp only [List.mem_cons, List.not_mem_nil, or_false] at hw; rcases hw with rfl | rfl <;> rfl) (Nat.le_of_ble_eq_true rfl) ?_
                                  refine wx_T_low M (shr (shr x1 4) 3) 3 (by decide) ?_
                                  show WX mi_T_turn 27 Q 323 [some (.ref 0), some (.int x1), some (.int (shr x1 4))] [.int (z_T_low (shr (shr x1 4) 3) 3), .int (z_T_low (shr (shr x1 4) 1) 3), .ref 0] M
                                  refine WX.callV (ca := mi_C_barrow) (n := 2) (d' := 5) (st := []) (As := [.int (z_T_low (shr (shr x1 4) 1) 3), .int (z_T_low (shr (shr x1 4) 3) 3)]) (q := 0) rfl lk_10_47 ck_C_barrow cv_C_barrow rfl (by decide) rfl (Nat.le_of_ble_eq_true rfl) ⟨by decide, rfl, by decide⟩ (by intro w hw; simp only [List.mem_cons, List.not_mem_nil, or_false] at hw; rcases hw with rfl | rfl <;> rfl) (Nat.le_of_ble_eq_true rfl) ?_
                                  exact (h21 c1 c2 c3 c4 c5 c6 c7 c8 c9 c10 c11 c12 c14 c17 c18 c20)
theorem sg_T_turn_0_105 {Q : Option Value → Mem → Prop} (M : Mem) (x1 x2 r : Int32)
    (h1 : Q (some (.int r)) M) :
    WX mi_T_turn 27 Q 105 [some (.ref 0), some (.int x1), some (.int x2)] [.int r] M := by
  exact WX.iret rfl rfl h1
theorem sg_T_turn_0_122 {Q : Option Value → Mem → Prop} (M : Mem) (x1 x2 r : Int32)
    (h1 : Q (some (.int r)) M) :
    WX mi_T_turn 27 Q 122 [some (.ref 0), some (.int x1), some (.int x2)] [.int r] M := by
  exact WX.iret rfl rfl h1
theorem sg_T_turn_0_147 {Q : Option Value → Mem → Prop} (M : Mem) (x1 x2 r : Int32)
    (h1 : Q (some (.int r)) M) :
    WX mi_T_turn 27 Q 147 [some (.ref 0), some (.int x1), some (.int x2)] [.int r] M := by
  exact WX.iret rfl rfl h1
theorem sg_T_turn_0_152 {Q : Option Value → Mem → Prop} (M : Mem) (x1 x2 r : Int32)
    (h1 : Q (some (.int r)) M) :
    WX mi_T_turn 27 Q 152 [some (.ref 0), some (.int x1), some (.int x2)] [.int r] M := by
  exact WX.iret rfl rfl h1
theorem sg_T_turn_0_157 {Q : Option Value → Mem → Prop} (M : Mem) (x1 x2 r : Int32)
    (h1 : Q (some (.int r)) M) :
    WX mi_T_turn 27 Q 157 [some (.ref 0), some (.int x1), some (.int x2)] [.int r] M := by
  exact WX.iret rfl rfl h1
theorem sg_T_turn_0_185 {Q : Option Value → Mem → Prop} (M : Mem) (x1 x2 r : Int32)
    (h1 : Q (some (.int r)) M) :
    WX mi_T_turn 27 Q 185 [some (.ref 0), some (.int x1), some (.int x2)] [.int r] M := by
  exact WX.iret rfl rfl h1
theorem sg_T_turn_0_173 {Q : Option Value → Mem → Prop} (M : Mem) (x1 x2 r : Int32)
    (h1 : Q (some (.int r)) M) :
    WX mi_T_turn 27 Q 173 [some (.ref 0), some (.int x1), some (.int x2)] [.int r] M := by
  refine WX.run (pc' := 185) (L' := [some (.ref 0), some (.int x1), some (.int x2)]) (st' := [.int r]) (M' := M) (P := True) 1 rfl trivial ?_
  exact WX.iret rfl rfl h1
theorem sg_T_turn_0_241 {Q : Option Value → Mem → Prop} (M : Mem) (x1 x2 r : Int32)
    (h1 : Q (some (.int r)) M) :
    WX mi_T_turn 27 Q 241 [some (.ref 0), some (.int x1), some (.int x2)] [.int r] M := by
  exact WX.iret rfl rfl h1
theorem sg_T_turn_0_220 {Q : Option Value → Mem → Prop} (M : Mem) (x1 x2 r : Int32)
    (h1 : Q (some (.int r)) M) :
    WX mi_T_turn 27 Q 220 [some (.ref 0), some (.int x1), some (.int x2)] [.int r] M := by
  refine WX.run (pc' := 241) (L' := [some (.ref 0), some (.int x1), some (.int x2)]) (st' := [.int r]) (M' := M) (P := True) 1 rfl trivial ?_
  exact WX.iret rfl rfl h1
theorem sg_T_turn_0_197 {Q : Option Value → Mem → Prop} (M : Mem) (x1 x2 r : Int32)
    (h1 : r = 0 → Q (some (.int 0)) M)
    (h2 : ¬ r = 0 → Q (some (.int 1)) M) :
    WX mi_T_turn 27 Q 197 [some (.ref 0), some (.int x1), some (.int x2)] [.int r] M := by
  refine WX.if_eq (off := 7) (tgt := 204) rfl rfl (fun c1 => ?_) (fun c1 => ?_)
  · refine WX.run (pc' := 241) (L' := [some (.ref 0), some (.int x1), some (.int x2)]) (st' := [.int 0]) (M' := M) (P := True) 2 rfl trivial ?_
    exact WX.iret rfl rfl (h1 c1)
  · refine WX.run (pc' := 241) (L' := [some (.ref 0), some (.int x1), some (.int x2)]) (st' := [.int 1]) (M' := M) (P := True) 2 rfl trivial ?_
    exact WX.iret rfl rfl (h2 c1)
theorem sg_T_turn_0_266 {Q : Option Value → Mem → Prop} (M : Mem) (x1 x2 r : Int32)
    (h1 : Q (some (.int r)) M) :
    WX mi_T_turn 27 Q 266 [some (.ref 0), some (.int x1), some (.int x2)] [.int r] M := by
  exact WX.iret rfl rfl h1
theorem sg_T_turn_0_301 {Q : Option Value → Mem → Prop} (M : Mem) (x1 x2 r : Int32)
    (h1 : Q (some (.int r)) M) :
    WX mi_T_turn 27 Q 301 [some (.ref 0), some (.int x1), some (.int x2)] [.int r] M := by
  exact WX.iret rfl rfl h1
theorem sg_T_turn_0_287 {Q : Option Value → Mem → Prop} (M : Mem) (x1 x2 r : Int32)
    (h1 : Q (some (.int r)) M) :
    WX mi_T_turn 27 Q 287 [some (.ref 0), some (.int x1), some (.int x2)] [.int r] M := by
  refine WX.run (pc' := 301) (L' := [some (.ref 0), some (.int x1), some (.int x2)]) (st' := [.int r]) (M' := M) (P := True) 1 rfl trivial ?_
  exact WX.iret rfl rfl h1
theorem sg_T_turn_0_333 {Q : Option Value → Mem → Prop} (M : Mem) (x1 x2 r : Int32)
    (h1 : Q (some (.int r)) M) :
    WX mi_T_turn 27 Q 333 [some (.ref 0), some (.int x1), some (.int x2)] [.int r] M := by
  exact WX.iret rfl rfl h1
theorem sg_T_turn_0_326 {Q : Option Value → Mem → Prop} (M : Mem) (x1 x2 r : Int32)
    (h1 : Q (some (.int r)) M) :
    WX mi_T_turn 27 Q 326 [some (.ref 0), some (.int x1), some (.int x2)] [.int r] M := by
  refine WX.run (pc' := 333) (L' := [some (.ref 0), some (.int x1), some (.int x2)]) (st' := [.int r]) (M' := M) (P := True) 1 rfl trivial ?_
  exact WX.iret rfl rfl h1
theorem sg_T_same_0_37_0 {Q : Option Value → Mem → Prop} (M : Mem)
    (h1 : WX mi_C_trace 1 (fun rv M' => WX mi_T_same 6 Q 4 [some (.ref 0), some (.ref 37), none, none] (rv.toList ++ []) M') 0 [some (.ref 0)] [] M) :
    WX mi_T_same 6 Q 0 [some (.ref 0), some (.ref 37), none, none] [] M := by
  refine WX.run (pc' := 1) (L' := [some (.ref 0), some (.ref 37), none, none]) (st' := [.ref 0]) (M' := M) (P := True) 1 rfl trivial ?_
  refine WX.callV (ca := mi_C_trace) (n := 0) (d' := 1) (st := []) (As := []) (q := 0) rfl lk_10_94 ck_C_trace cv_C_trace rfl (by decide) rfl (Nat.le_of_ble_eq_true rfl) ⟨by decide, rfl, by decide⟩ (fun w hw => absurd hw List.not_mem_nil) (Nat.le_of_ble_eq_true rfl) ?_
  exact h1
theorem sg_T_same_0_37_4 {Q : Option Value → Mem → Prop} (M : Mem) (r : Int64)
    (h1 : WX mi_C_trace 1 (fun rv M' => WX mi_T_same 6 Q 8 [some (.ref 0), some (.ref 37), none, none] (rv.toList ++ [.long r]) M') 0 [some (.ref 37)] [] M) :
    WX mi_T_same 6 Q 4 [some (.ref 0), some (.ref 37), none, none] [.long r] M := by
  refine WX.run (pc' := 5) (L' := [some (.ref 0), some (.ref 37), none, none]) (st' := [.ref 37, .long r]) (M' := M) (P := True) 1 rfl trivial ?_
  refine WX.callV (ca := mi_C_trace) (n := 0) (d' := 1) (st := [.long r]) (As := []) (q := 37) rfl lk_10_94 ck_C_trace cv_C_trace rfl (by decide) rfl (Nat.le_of_ble_eq_true rfl) ⟨by decide, rfl, by decide⟩ (fun w hw => absurd hw List.not_mem_nil) (Nat.le_of_ble_eq_true rfl) ?_
  exact h1
theorem sg_T_same_0_37_8 {Q : Option Value → Mem → Prop} (M : Mem) (r s1 : Int64)
    (h1 : ¬ (lg_cmp s1 r) = 0 → WX mi_T_same 6 Q 20 [some (.ref 0), some (.ref 37), some (.int 0), some (.int 0)] [] M)
    (h2 : (lg_cmp s1 r) = 0 → WX mi_T_same 6 Q 20 [some (.ref 0), some (.ref 37), some (.int 1), some (.int 0)] [] M) :
    WX mi_T_same 6 Q 8 [some (.ref 0), some (.ref 37), none, none] [.long r, .long s1] M := by
  refine WX.run (pc' := 9) (L' := [some (.ref 0), some (.ref 37), none, none]) (st' := [.int (lg_cmp s1 r)]) (M' := M) (P := True) 1 rfl trivial ?_
  refine WX.if_ne (off := 7) (tgt := 16) rfl rfl (fun c1 => ?_) (fun c1 => ?_)
  · refine WX.run (pc' := 20) (L' := [some (.ref 0), some (.ref 37), some (.int 0), some (.int 0)]) (st' := []) (M' := M) (P := True) 4 rfl trivial ?_
    exact (h1 c1)
  · refine WX.run (pc' := 20) (L' := [some (.ref 0), some (.ref 37), some (.int 1), some (.int 0)]) (st' := []) (M' := M) (P := True) 5 rfl trivial ?_
    exact (h2 c1)
theorem sg_T_same_0_37_20 {Q : Option Value → Mem → Prop} (M : Mem) (x2 x3 : Int32)
    (h1 : 8 ≤ x3 → WX mi_T_same 6 Q 92 [some (.ref 0), some (.ref 37), some (.int x2), some (.int 0)] [] M)
    (h2 : ¬ 8 ≤ x3 → x2 = 0 → WX mi_T_same 6 Q 20 [some (.ref 0), some (.ref 37), some (.int 0), some (.int (x3 + 1))] [] M)
    (h3 : ¬ 8 ≤ x3 → ¬ x2 = 0 → WX mi_C_now 5 (fun rv M' => WX mi_T_same 6 Q 35 [some (.ref 0), some (.ref 37), some (.int x2), some (.int x3)] (rv.toList ++ []) M') 0 [some (.ref 0), some (.int x3)] [] M) :
    WX mi_T_same 6 Q 20 [some (.ref 0), some (.ref 37), some (.int x2), some (.int x3)] [] M := by
  refine WX.run (pc' := 23) (L' := [some (.ref 0), some (.ref 37), some (.int x2), some (.int x3)]) (st' := [.int 8, .int x3]) (M' := M) (P := True) 2 rfl trivial ?_
  refine WX.icmp_ge (off := 67) (tgt := 90) rfl rfl (fun c1 => ?_) (fun c1 => ?_)
  · refine WX.run (pc' := 92) (L' := [some (.ref 0), some (.ref 37), some (.int x2), some (.int 0)]) (st' := []) (M' := M) (P := True) 2 rfl trivial ?_
    exact (h1 c1)
  · refine WX.run (pc' := 27) (L' := [some (.ref 0), some (.ref 37), some (.int x2), some (.int x3)]) (st' := [.int x2]) (M' := M) (P := True) 1 rfl trivial ?_
    refine WX.if_eq (off := 55) (tgt := 82) rfl rfl (fun c2 => ?_) (fun c2 => ?_)
    · refine WX.run (pc' := 20) (L' := [some (.ref 0), some (.ref 37), some (.int 0), some (.int (x3 + 1))]) (st' := []) (M' := M) (P := True) 4 rfl trivial ?_
      exact (h2 c1 c2)
    · refine WX.run (pc' := 32) (L' := [some (.ref 0), some (.ref 37), some (.int x2), some (.int x3)]) (st' := [.int x3, .ref 0]) (M' := M) (P := True) 2 rfl trivial ?_
      refine WX.callV (ca := mi_C_now) (n := 1) (d' := 5) (st := []) (As := [.int x3]) (q := 0) rfl lk_10_29 ck_C_now cv_C_now rfl (by decide) rfl (Nat.le_of_ble_eq_true rfl) ⟨by decide, rfl, by decide⟩ (by intro w hw; simp only [List.mem_cons, List.not_mem_nil, or_false] at hw; rcases hw with rfl <;> rfl) (Nat.le_of_ble_eq_true rfl) ?_
      exact (h3 c1 c2)
theorem sg_T_same_0_37_92 {Q : Option Value → Mem → Prop} (M : Mem) (x2 x3 : Int32)
    (b1 : 9 ≤ x3 → (x2 = 0 ∨ x2 = 1))
    (h2 : 9 ≤ x3 → Q (some (.int x2)) M)
    (h3 : ¬ 9 ≤ x3 → x2 = 0 → WX mi_T_same 6 Q 92 [some (.ref 0), some (.ref 37), some (.int 0), some (.int (x3 + 1))] [] M)
    (h4 : ¬ 9 ≤ x3 → ¬ x2 = 0 → WX mi_C_cell 5 (fun rv M' => WX mi_T_same 6 Q 113 [some (.ref 0), some (.ref 37), some (.int x2), some (.int x3)] (rv.toList ++ []) M') 0 [some (.ref 0), some (.int (x3 / 3)), some (.int (rem x3 3)), some (.int 0), none, none] [] M) :
    WX mi_T_same 6 Q 92 [some (.ref 0), some (.ref 37), some (.int x2), some (.int x3)] [] M := by
  refine WX.run (pc' := 95) (L' := [some (.ref 0), some (.ref 37), some (.int x2), some (.int x3)]) (st' := [.int 9, .int x3]) (M' := M) (P := True) 2 rfl trivial ?_
  refine WX.icmp_ge (off := 69) (tgt := 164) rfl rfl (fun c1 => ?_) (fun c1 => ?_)
  · refine WX.run (pc' := 165) (L' := [some (.ref 0), some (.ref 37), some (.int x2), some (.int x3)]) (st' := [.int x2]) (M' := M) (P := True) 1 rfl trivial ?_
    exact WX.zret rfl rfl (b1 c1) (h2 c1)
  · refine WX.run (pc' := 99) (L' := [some (.ref 0), some (.ref 37), some (.int x2), some (.int x3)]) (st' := [.int x2]) (M' := M) (P := True) 1 rfl trivial ?_
    refine WX.if_eq (off := 57) (tgt := 156) rfl rfl (fun c2 => ?_) (fun c2 => ?_)
    · refine WX.run (pc' := 92) (L' := [some (.ref 0), some (.ref 37), some (.int 0), some (.int (x3 + 1))]) (st' := []) (M' := M) (P := True) 4 rfl trivial ?_
      exact (h3 c1 c2)
    · refine WX.run (pc' := 110) (L' := [some (.ref 0), some (.ref 37), some (.int x2), some (.int x3)]) (st' := [.int 0, .int (rem x3 3), .int (x3 / 3), .ref 0]) (M' := M) (P := ((True ∧ ¬ 3 = 0) ∧ ¬ 3 = 0)) 8 rfl ⟨⟨trivial, (by decide)⟩, (by decide)⟩ ?_
      refine WX.callV (ca := mi_C_cell) (n := 3) (d' := 5) (st := []) (As := [.int (x3 / 3), .int (rem x3 3), .int 0]) (q := 0) rfl lk_10_15 ck_C_cell cv_C_cell rfl (by decide) rfl (Nat.le_of_ble_eq_true rfl) ⟨by decide, rfl, by decide⟩ (by intro w hw; simp only [List.mem_cons, List.not_mem_nil, or_false] at hw; rcases hw with rfl | rfl | rfl <;> rfl) (Nat.le_of_ble_eq_true rfl) ?_
      exact (h4 c1 c2)
theorem sg_T_same_0_37_35 {Q : Option Value → Mem → Prop} (M : Mem) (x2 x3 r : Int32)
    (h1 : WX mi_C_now 5 (fun rv M' => WX mi_T_same 6 Q 40 [some (.ref 0), some (.ref 37), some (.int x2), some (.int x3)] (rv.toList ++ [.int r]) M') 0 [some (.ref 37), some (.int x3)] [] M) :
    WX mi_T_same 6 Q 35 [some (.ref 0), some (.ref 37), some (.int x2), some (.int x3)] [.int r] M := by
  refine WX.run (pc' := 37) (L' := [some (.ref 0), some (.ref 37), some (.int x2), some (.int x3)]) (st' := [.int x3, .ref 37, .int r]) (M' := M) (P := True) 2 rfl trivial ?_
  refine WX.callV (ca := mi_C_now) (n := 1) (d' := 5) (st := [.int r]) (As := [.int x3]) (q := 37) rfl lk_10_29 ck_C_now cv_C_now rfl (by decide) rfl (Nat.le_of_ble_eq_true rfl) ⟨by decide, rfl, by decide⟩ (by intro w hw; simp only [List.mem_cons, List.not_mem_nil, or_false] at hw; rcases hw with rfl <;> rfl) (Nat.le_of_ble_eq_true rfl) ?_
  exact h1
theorem sg_T_same_0_37_113 {Q : Option Value → Mem → Prop} (M : Mem) (x2 x3 r : Int32)
    (h1 : WX mi_C_cell 5 (fun rv M' => WX mi_T_same 6 Q 124 [some (.ref 0), some (.ref 37), some (.int x2), some (.int x3)] (rv.toList ++ [.int r]) M') 0 [some (.ref 37), some (.int (x3 / 3)), some (.int (rem x3 3)), some (.int 0), none, none] [] M) :
    WX mi_T_same 6 Q 113 [some (.ref 0), some (.ref 37), some (.int x2), some (.int x3)] [.int r] M := by
  refine WX.run (pc' := 121) (L' := [some (.ref 0), some (.ref 37), some (.int x2), some (.int x3)]) (st' := [.int 0, .int (rem x3 3), .int (x3 / 3), .ref 37, .int r]) (M' := M) (P := ((True ∧ ¬ 3 = 0) ∧ ¬ 3 = 0)) 8 rfl ⟨⟨trivial, (by decide)⟩, (by decide)⟩ ?_
  refine WX.callV (ca := mi_C_cell) (n := 3) (d' := 5) (st := [.int r]) (As := [.int (x3 / 3), .int (rem x3 3), .int 0]) (q := 37) rfl lk_10_15 ck_C_cell cv_C_cell rfl (by decide) rfl (Nat.le_of_ble_eq_true rfl) ⟨by decide, rfl, by decide⟩ (by intro w hw; simp only [List.mem_cons, List.not_mem_nil, or_false] at hw; rcases hw with rfl | rfl | rfl <;> rfl) (Nat.le_of_ble_eq_true rfl) ?_
  exact h1
theorem sg_T_same_0_37_40 {Q : Option Value → Mem → Prop} (M : Mem) (x2 x3 r s1 : Int32)
    (h1 : ¬ s1 = r → WX mi_T_same 6 Q 20 [some (.ref 0), some (.ref 37), some (.int 0), some (.int (x3 + 1))] [] M)
    (b2 : s1 = r → 5 < x3 → ¬ (z_C_isSize (x3 &&& 3)) = 0 → vp_in (x3 &&& 3) 4)
    (h3 : s1 = r → 5 < x3 → WX mi_C_stock 2 (fun rv M' => WX mi_T_same 6 Q 75 [some (.ref 0), some (.ref 37), some (.int x2), some (.int x3)] (rv.toList ++ [.int (z_C_stock_0 M (x3 &&& 3))]) M') 0 [some (.ref 37), some (.int (x3 &&& 3))] [] M)
    (h4 : s1 = r → ¬ 5 < x3 → WX mi_C_count 1 (fun rv M' => WX mi_T_same 6 Q 58 [some (.ref 0), some (.ref 37), some (.int x2), some (.int x3)] (rv.toList ++ [.int (z_C_count_0 M x3)]) M') 0 [some (.ref 37), some (.int x3)] [] M) :
    WX mi_T_same 6 Q 40 [some (.ref 0), some (.ref 37), some (.int x2), some (.int x3)] [.int r, .int s1] M := by
  refine WX.icmp_ne (off := 42) (tgt := 82) rfl rfl (fun c1 => ?_) (fun c1 => ?_)
  · refine WX.run (pc' := 20) (L' := [some (.ref 0), some (.ref 37), some (.int 0), some (.int (x3 + 1))]) (st' := []) (M' := M) (P := True) 4 rfl trivial ?_
    exact (h1 c1)
  · refine WX.run (pc' := 45) (L' := [some (.ref 0), some (.ref 37), some (.int x2), some (.int x3)]) (st' := [.int 5, .int x3]) (M' := M) (P := True) 2 rfl trivial ?_
    refine WX.icmp_gt (off := 16) (tgt := 61) rfl rfl (fun c2 => ?_) (fun c2 => ?_)
    · refine WX.run (pc' := 65) (L' := [some (.ref 0), some (.ref 37), some (.int x2), some (.int x3)]) (st' := [.int (x3 &&& 3), .ref 0]) (M' := M) (P := True) 4 rfl trivial ?_
      refine WX.callV (ca := mi_C_stock) (n := 1) (d' := 2) (st := []) (As := [.int (x3 &&& 3)]) (q := 0) rfl lk_10_32 ck_C_stock cv_C_stock rfl (by decide) rfl (Nat.le_of_ble_eq_true rfl) ⟨by decide, rfl, by decide⟩ (by intro w hw; simp only [List.mem_cons, List.not_mem_nil, or_false] at hw; rcases hw with rfl <;> rfl) (Nat.le_of_ble_eq_true rfl) ?_
      refine wx_C_stock_0 M (x3 &&& 3) (b2 c1 c2) ?_
      show WX mi_T_same 6 Q 68 [some (.ref 0), some (.ref 37), some (.int x2), some (.int x3)] [.int (z_C_stock_0 M (x3 &&& 3))] M
      refine WX.run (pc' := 72) (L' := [some (.ref 0), some (.ref 37), some (.int x2), some (.int x3)]) (st' := [.int (x3 &&& 3), .ref 37, .int (z_C_stock_0 M (x3 &&& 3))]) (M' := M) (P := True) 4 rfl trivial ?_
      refine WX.callV (ca := mi_C_stock) (n := 1) (d' := 2) (st := [.int (z_C_stock_0 M (x3 &&& 3))]) (As := [.int (x3 &&& 3)]) (q := 37) rfl lk_10_32 ck_C_stock cv_C_stock rfl (by decide) rfl (Nat.le_of_ble_eq_true rfl) ⟨by decide, rfl, by decide⟩ (by intro w hw; simp only [List.mem_cons, List.not_mem_nil, or_false] at hw; rcases hw with rfl <;> rfl) (Nat.le_of_ble_eq_true rfl) ?_
      exact (h3 c1 c2)
    · refine WX.run (pc' := 50) (L' := [some (.ref 0), some (.ref 37), some (.int x2), some (.int x3)]) (st' := [.int x3, .ref 0]) (M' := M) (P := True) 2 rfl trivial ?_
      refine WX.callV (ca := mi_C_count) (n := 1) (d' := 1) (st := []) (As := [.int x3]) (q := 0) rfl lk_10_67 ck_C_count cv_C_count rfl (by decide) rfl (Nat.le_of_ble_eq_true rfl) ⟨by decide, rfl, by decide⟩ (by intro w hw; simp only [List.mem_cons, List.not_mem_nil, or_false] at hw; rcases hw with rfl <;> rfl) (Nat.le_of_ble_eq_true rfl) ?_
      refine wx_C_count_0 M x3 ?_
      show WX mi_T_same 6 Q 53 [some (.ref 0), some (.ref 37), some (.int x2), some (.int x3)] [.int (z_C_count_0 M x3)] M
      refine WX.run (pc' := 55) (L' := [some (.ref 0), some (.ref 37), some (.int x2), some (.int x3)]) (st' := [.int x3, .ref 37, .int (z_C_count_0 M x3)]) (M' := M) (P := True) 2 rfl trivial ?_
      refine WX.callV (ca := mi_C_count) (n := 1) (d' := 1) (st := [.int (z_C_count_0 M x3)]) (As := [.int x3]) (q := 37) rfl lk_10_67 ck_C_count cv_C_count rfl (by decide) rfl (Nat.le_of_ble_eq_true rfl) ⟨by decide, rfl, by decide⟩ (by intro w hw; simp only [List.mem_cons, List.not_mem_nil, or_false] at hw; rcases hw with rfl <;> rfl) (Nat.le_of_ble_eq_true rfl) ?_
      exact (h4 c1 c2)
theorem sg_T_same_0_37_124 {Q : Option Value → Mem → Prop} (M : Mem) (x2 x3 r s1 : Int32)
    (h1 : ¬ s1 = r → WX mi_T_same 6 Q 92 [some (.ref 0), some (.ref 37), some (.int 0), some (.int (x3 + 1))] [] M)
    (h2 : s1 = r → WX mi_C_cell 5 (fun rv M' => WX mi_T_same 6 Q 138 [some (.ref 0), some (.ref 37), some (.int x2), some (.int x3)] (rv.toList ++ []) M') 0 [some (.ref 0), some (.int (x3 / 3)), some (.int (rem x3 3)), some (.int 3), none, none] [] M) :
    WX mi_T_same 6 Q 124 [some (.ref 0), some (.ref 37), some (.int x2), some (.int x3)] [.int r, .int s1] M := by
  refine WX.icmp_ne (off := 32) (tgt := 156) rfl rfl (fun c1 => ?_) (fun c1 => ?_)
  · refine WX.run (pc' := 92) (L' := [some (.ref 0), some (.ref 37), some (.int 0), some (.int (x3 + 1))]) (st' := []) (M' := M) (P := True) 4 rfl trivial ?_
    exact (h1 c1)
  · refine WX.run (pc' := 135) (L' := [some (.ref 0), some (.ref 37), some (.int x2), some (.int x3)]) (st' := [.int 3, .int (rem x3 3), .int (x3 / 3), .ref 0]) (M' := M) (P := ((True ∧ ¬ 3 = 0) ∧ ¬ 3 = 0)) 8 rfl ⟨⟨trivial, (by decide)⟩, (by decide)⟩ ?_
    refine WX.callV (ca := mi_C_cell) (n := 3) (d' := 5) (st := []) (As := [.int (x3 / 3), .int (rem x3 3), .int 3]) (q := 0) rfl lk_10_15 ck_C_cell cv_C_cell rfl (by decide) rfl (Nat.le_of_ble_eq_true rfl) ⟨by decide, rfl, by decide⟩ (by intro w hw; simp only [List.mem_cons, List.not_mem_nil, or_false] at hw; rcases hw with rfl | rfl | rfl <;> rfl) (Nat.le_of_ble_eq_true rfl) ?_
    exact (h2 c1)
theorem sg_T_same_0_37_75 {Q : Option Value → Mem → Prop} (M : Mem) (x2 x3 r s1 : Int32)
    (h1 : ¬ s1 = r → WX mi_T_same 6 Q 20 [some (.ref 0), some (.ref 37), some (.int 0), some (.int (x3 + 1))] [] M)
    (h2 : s1 = r → WX mi_T_same 6 Q 20 [some (.ref 0), some (.ref 37), some (.int 1), some (.int (x3 + 1))] [] M) :
    WX mi_T_same 6 Q 75 [some (.ref 0), some (.ref 37), some (.int x2), some (.int x3)] [.int r, .int s1] M := by
  refine WX.icmp_ne (off := 7) (tgt := 82) rfl rfl (fun c1 => ?_) (fun c1 => ?_)
  · refine WX.run (pc' := 20) (L' := [some (.ref 0), some (.ref 37), some (.int 0), some (.int (x3 + 1))]) (st' := []) (M' := M) (P := True) 4 rfl trivial ?_
    exact (h1 c1)
  · refine WX.run (pc' := 20) (L' := [some (.ref 0), some (.ref 37), some (.int 1), some (.int (x3 + 1))]) (st' := []) (M' := M) (P := True) 5 rfl trivial ?_
    exact (h2 c1)
theorem sg_T_same_0_37_58 {Q : Option Value → Mem → Prop} (M : Mem) (x2 x3 r s1 : Int32)
    (h1 : ¬ s1 = r → WX mi_T_same 6 Q 20 [some (.ref 0), some (.ref 37), some (.int 0), some (.int (x3 + 1))] [] M)
    (b2 : s1 = r → ¬ (z_C_isSize (x3 &&& 3)) = 0 → vp_in (x3 &&& 3) 4)
    (h3 : s1 = r → WX mi_C_stock 2 (fun rv M' => WX mi_T_same 6 Q 75 [some (.ref 0), some (.ref 37), some (.int x2), some (.int x3)] (rv.toList ++ [.int (z_C_stock_0 M (x3 &&& 3))]) M') 0 [some (.ref 37), some (.int (x3 &&& 3))] [] M) :
    WX mi_T_same 6 Q 58 [some (.ref 0), some (.ref 37), some (.int x2), some (.int x3)] [.int r, .int s1] M := by
  refine WX.icmp_ne (off := 24) (tgt := 82) rfl rfl (fun c1 => ?_) (fun c1 => ?_)
  · refine WX.run (pc' := 20) (L' := [some (.ref 0), some (.ref 37), some (.int 0), some (.int (x3 + 1))]) (st' := []) (M' := M) (P := True) 4 rfl trivial ?_
    exact (h1 c1)
  · refine WX.run (pc' := 65) (L' := [some (.ref 0), some (.ref 37), some (.int x2), some (.int x3)]) (st' := [.int (x3 &&& 3), .ref 0]) (M' := M) (P := True) 4 rfl trivial ?_
    refine WX.callV (ca := mi_C_stock) (n := 1) (d' := 2) (st := []) (As := [.int (x3 &&& 3)]) (q := 0) rfl lk_10_32 ck_C_stock cv_C_stock rfl (by decide) rfl (Nat.le_of_ble_eq_true rfl) ⟨by decide, rfl, by decide⟩ (by intro w hw; simp only [List.mem_cons, List.not_mem_nil, or_false] at hw; rcases hw with rfl <;> rfl) (Nat.le_of_ble_eq_true rfl) ?_
    refine wx_C_stock_0 M (x3 &&& 3) (b2 c1) ?_
    show WX mi_T_same 6 Q 68 [some (.ref 0), some (.ref 37), some (.int x2), some (.int x3)] [.int (z_C_stock_0 M (x3 &&& 3))] M
    refine WX.run (pc' := 72) (L' := [some (.ref 0), some (.ref 37), some (.int x2), some (.int x3)]) (st' := [.int (x3 &&& 3), .ref 37, .int (z_C_stock_0 M (x3 &&& 3))]) (M' := M) (P := True) 4 rfl trivial ?_
    refine WX.callV (ca := mi_C_stock) (n := 1) (d' := 2) (st := [.int (z_C_stock_0 M (x3 &&& 3))]) (As := [.int (x3 &&& 3)]) (q := 37) rfl lk_10_32 ck_C_stock cv_C_stock rfl (by decide) rfl (Nat.le_of_ble_eq_true rfl) ⟨by decide, rfl, by decide⟩ (by intro w hw; simp only [List.mem_cons, List.not_mem_nil, or_false] at hw; rcases hw with rfl <;> rfl) (Nat.le_of_ble_eq_true rfl) ?_
    exact (h3 c1)
theorem sg_T_same_0_37_138 {Q : Option Value → Mem → Prop} (M : Mem) (x2 x3 r : Int32)
    (h1 : WX mi_C_cell 5 (fun rv M' => WX mi_T_same 6 Q 149 [some (.ref 0), some (.ref 37), some (.int x2), some (.int x3)] (rv.toList ++ [.int r]) M') 0 [some (.ref 37), some (.int (x3 / 3)), some (.int (rem x3 3)), some (.int 3), none, none] [] M) :
    WX mi_T_same 6 Q 138 [some (.ref 0), some (.ref 37), some (.int x2), some (.int x3)] [.int r] M := by
  refine WX.run (pc' := 146) (L' := [some (.ref 0), some (.ref 37), some (.int x2), some (.int x3)]) (st' := [.int 3, .int (rem x3 3), .int (x3 / 3), .ref 37, .int r]) (M' := M) (P := ((True ∧ ¬ 3 = 0) ∧ ¬ 3 = 0)) 8 rfl ⟨⟨trivial, (by decide)⟩, (by decide)⟩ ?_
  refine WX.callV (ca := mi_C_cell) (n := 3) (d' := 5) (st := [.int r]) (As := [.int (x3 / 3), .int (rem x3 3), .int 3]) (q := 37) rfl lk_10_15 ck_C_cell cv_C_cell rfl (by decide) rfl (Nat.le_of_ble_eq_true rfl) ⟨by decide, rfl, by decide⟩ (by intro w hw; simp only [List.mem_cons, List.not_mem_nil, or_false] at hw; rcases hw with rfl | rfl | rfl <;> rfl) (Nat.le_of_ble_eq_true rfl) ?_
  exact h1
theorem sg_T_same_0_37_149 {Q : Option Value → Mem → Prop} (M : Mem) (x2 x3 r s1 : Int32)
    (h1 : ¬ s1 = r → WX mi_T_same 6 Q 92 [some (.ref 0), some (.ref 37), some (.int 0), some (.int (x3 + 1))] [] M)
    (h2 : s1 = r → WX mi_T_same 6 Q 92 [some (.ref 0), some (.ref 37), some (.int 1), some (.int (x3 + 1))] [] M) :
    WX mi_T_same 6 Q 149 [some (.ref 0), some (.ref 37), some (.int x2), some (.int x3)] [.int r, .int s1] M := by
  refine WX.icmp_ne (off := 7) (tgt := 156) rfl rfl (fun c1 => ?_) (fun c1 => ?_)
  · refine WX.run (pc' := 92) (L' := [some (.ref 0), some (.ref 37), some (.int 0), some (.int (x3 + 1))]) (st' := []) (M' := M) (P := True) 4 rfl trivial ?_
    exact (h1 c1)
  · refine WX.run (pc' := 92) (L' := [some (.ref 0), some (.ref 37), some (.int 1), some (.int (x3 + 1))]) (st' := []) (M' := M) (P := True) 5 rfl trivial ?_
    exact (h2 c1)
