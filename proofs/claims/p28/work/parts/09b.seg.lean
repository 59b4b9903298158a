/-! ===== printed by wip/gen/gen08.py: the stretches of the methods ===== -/
theorem sg_W_firstAround_0 {Q : Option Value → Mem → Prop} (M : Mem) (x0 x1 : Int32)
    (h1 : (x1 &&& (shr (shl 1 x0) 4)) = 0 → (x1 &&& (shl (shl 1 x0) 1)) = 0 → (x1 &&& (shl (shl 1 x0) 4)) = 0 → Q (some (.int (x0 - 1))) M)
    (h2 : (x1 &&& (shr (shl 1 x0) 4)) = 0 → (x1 &&& (shl (shl 1 x0) 1)) = 0 → ¬ (x1 &&& (shl (shl 1 x0) 4)) = 0 → Q (some (.int (x0 + 4))) M)
    (h3 : (x1 &&& (shr (shl 1 x0) 4)) = 0 → ¬ (x1 &&& (shl (shl 1 x0) 1)) = 0 → Q (some (.int (x0 + 1))) M)
    (h4 : ¬ (x1 &&& (shr (shl 1 x0) 4)) = 0 → Q (some (.int (x0 - 4))) M) :
    WX mi_W_firstAround 1 Q 0 [some (.int x0), some (.int x1), none] [] M := by
  refine WX.run (pc' := 9) (L' := [some (.int x0), some (.int x1), some (.int (shl 1 x0))]) (st' := [.int (x1 &&& (shr (shl 1 x0) 4))]) (M' := M) (P := True) 9 rfl trivial ?_
  refine WX.if_eq (off := 7) (tgt := 16) rfl rfl (fun c1 => ?_) (fun c1 => ?_)
  · refine WX.run (pc' := 21) (L' := [some (.int x0), some (.int x1), some (.int (shl 1 x0))]) (st' := [.int (x1 &&& (shl (shl 1 x0) 1))]) (M' := M) (P := True) 5 rfl trivial ?_
    refine WX.if_eq (off := 7) (tgt := 28) rfl rfl (fun c2 => ?_) (fun c2 => ?_)
    · refine WX.run (pc' := 33) (L' := [some (.int x0), some (.int x1), some (.int (shl 1 x0))]) (st' := [.int (x1 &&& (shl (shl 1 x0) 4))]) (M' := M) (P := True) 5 rfl trivial ?_
      refine WX.if_eq (off := 9) (tgt := 42) rfl rfl (fun c3 => ?_) (fun c3 => ?_)
      · refine WX.run (pc' := 45) (L' := [some (.int x0), some (.int x1), some (.int (shl 1 x0))]) (st' := [.int (x0 - 1)]) (M' := M) (P := True) 3 rfl trivial ?_
        exact WX.iret rfl rfl (h1 c1 c2 c3)
      · refine WX.run (pc' := 45) (L' := [some (.int x0), some (.int x1), some (.int (shl 1 x0))]) (st' := [.int (x0 + 4)]) (M' := M) (P := True) 4 rfl trivial ?_
        exact WX.iret rfl rfl (h2 c1 c2 c3)
    · refine WX.run (pc' := 27) (L' := [some (.int x0), some (.int x1), some (.int (shl 1 x0))]) (st' := [.int (x0 + 1)]) (M' := M) (P := True) 3 rfl trivial ?_
      exact WX.iret rfl rfl (h3 c1 c2)
  · refine WX.run (pc' := 15) (L' := [some (.int x0), some (.int x1), some (.int (shl 1 x0))]) (st' := [.int (x0 - 4)]) (M' := M) (P := True) 3 rfl trivial ?_
    exact WX.iret rfl rfl (h4 c1)
def z_W_firstAround (x0 x1 : Int32) : Int32 := (if (x1 &&& (shr (shl 1 x0) 4)) = 0 then (if (x1 &&& (shl (shl 1 x0) 1)) = 0 then (if (x1 &&& (shl (shl 1 x0) 4)) = 0 then (x0 - 1) else (x0 + 4)) else (x0 + 1)) else (x0 - 4))
theorem wx_W_firstAround {Q : Option Value → Mem → Prop} (M : Mem) (x0 x1 : Int32)
    (h : Q (some (.int (z_W_firstAround x0 x1))) M) :
    WX mi_W_firstAround 1 Q 0 [some (.int x0), some (.int x1), none] [] M := by
  refine sg_W_firstAround_0 M x0 x1
    (fun c1 c2 c3 => by
      unfold z_W_firstAround at h
      rw [if_pos c1, if_pos c2, if_pos c3] at h
      exact h)
    (fun c1 c2 c3 => by
      unfold z_W_firstAround at h
      rw [if_pos c1, if_pos c2, if_neg c3] at h
      exact h)
    (fun c1 c2 => by
      unfold z_W_firstAround at h
      rw [if_pos c1, if_neg c2] at h
      exact h)
    (fun c1 => by
      unfold z_W_firstAround at h
      rw [if_neg c1] at h
      exact h)
theorem sg_W_fill_30_6_9_0 {Q : Option Value → Mem → Prop} (M : Mem)
    (h1 : WX mi_L_layable 2 (fun rv M' => WX mi_W_fill 3 Q 4 [some (.ref 30), some (.ref 6), some (.ref 9), none, none, none] (rv.toList ++ []) M') 0 [some (.ref 6)] [] M) :
    WX mi_W_fill 3 Q 0 [some (.ref 30), some (.ref 6), some (.ref 9), none, none, none] [] M := by
  refine WX.run (pc' := 1) (L' := [some (.ref 30), some (.ref 6), some (.ref 9), none, none, none]) (st' := [.ref 6]) (M' := M) (P := True) 1 rfl trivial ?_
  refine WX.callV (ca := mi_L_layable) (n := 0) (d' := 2) (st := []) (As := []) (q := 6) rfl lk_5_15 ck_L_layable cv_L_layable rfl (by decide) rfl (Nat.le_of_ble_eq_true rfl) ⟨by decide, rfl, by decide⟩ (fun w hw => absurd hw List.not_mem_nil) (Nat.le_of_ble_eq_true rfl) ?_
  exact h1
theorem sg_W_fill_30_6_9_4 {Q : Option Value → Mem → Prop} (M : Mem) (r : Int32)
    (h1 : WX mi_W_fill 3 Q 8 [some (.ref 30), some (.ref 6), some (.ref 9), some (.int r), some (.int 0), none] [] M) :
    WX mi_W_fill 3 Q 4 [some (.ref 30), some (.ref 6), some (.ref 9), none, none, none] [.int r] M := by
  refine WX.run (pc' := 8) (L' := [some (.ref 30), some (.ref 6), some (.ref 9), some (.int r), some (.int 0), none]) (st' := []) (M' := M) (P := True) 3 rfl trivial ?_
  exact h1
theorem sg_W_fill_30_6_9_8 {Q : Option Value → Mem → Prop} (M : Mem) (x3 x4 : Int32)
    (h1 : 11 ≤ x4 → WX mi_W_fill 3 Q 42 [some (.ref 30), some (.ref 6), some (.ref 9), some (.int x3), some (.int 0), none] [] (wr M 31 0 (M.1 6 4)))
    (b2 : ¬ 11 ≤ x4 → vp_in x4 11)
    (h3 : ¬ 11 ≤ x4 → WX mi_W_fill 3 Q 8 [some (.ref 30), some (.ref 6), some (.ref 9), some (.int x3), some (.int (x4 + 1)), none] [] (wr M 31 x4.toNatClampNeg 0)) :
    WX mi_W_fill 3 Q 8 [some (.ref 30), some (.ref 6), some (.ref 9), some (.int x3), some (.int x4), none] [] M := by
  refine WX.run (pc' := 12) (L' := [some (.ref 30), some (.ref 6), some (.ref 9), some (.int x3), some (.int x4), none]) (st' := [.int 11, .int x4]) (M' := M) (P := True) 2 rfl trivial ?_
  refine WX.icmp_ge (off := 17) (tgt := 29) rfl rfl (fun c1 => ?_) (fun c1 => ?_)
  · refine WX.run (pc' := 42) (L' := [some (.ref 30), some (.ref 6), some (.ref 9), some (.int x3), some (.int 0), none]) (st' := []) (M' := (wr M 31 0 (M.1 6 4))) (P := (True ∧ vp_in 0 11)) 8 rfl ⟨trivial, (vp_lit rfl)⟩ ?_
    exact (h1 c1)
  · refine WX.run (pc' := 8) (L' := [some (.ref 30), some (.ref 6), some (.ref 9), some (.int x3), some (.int (x4 + 1)), none]) (st' := []) (M' := (wr M 31 x4.toNatClampNeg 0)) (P := (True ∧ vp_in x4 11)) 7 rfl ⟨trivial, (b2 c1)⟩ ?_
    exact (h3 c1)
theorem sg_W_fill_30_6_9_42 {Q : Option Value → Mem → Prop} (M : Mem) (x3 x4 : Int32)
    (h1 : 16 ≤ x4 → Q none M)
    (b2 : ¬ 16 ≤ x4 → vp_in x4 16)
    (h3 : ¬ 16 ≤ x4 → (z_C_holds x3 x4) = 0 → WX mi_W_fill 3 Q 42 [some (.ref 30), some (.ref 6), some (.ref 9), some (.int x3), some (.int (x4 + 1)), none] [] M)
    (h4 : ¬ 16 ≤ x4 → ¬ (z_C_holds x3 x4) = 0 → ((M.1 10 x4.toNatClampNeg) + 1) ≤ 0 → WX mi_W_fill 3 Q 42 [some (.ref 30), some (.ref 6), some (.ref 9), some (.int x3), some (.int (x4 + 1)), none] [] M)
    (h5 : ¬ 16 ≤ x4 → ¬ (z_C_holds x3 x4) = 0 → ¬ ((M.1 10 x4.toNatClampNeg) + 1) ≤ 0 → 11 ≤ ((M.1 10 x4.toNatClampNeg) + 1) → WX mi_W_fill 3 Q 42 [some (.ref 30), some (.ref 6), some (.ref 9), some (.int x3), some (.int (x4 + 1)), none] [] M)
    (b6 : ¬ 16 ≤ x4 → ¬ (z_C_holds x3 x4) = 0 → ¬ ((M.1 10 x4.toNatClampNeg) + 1) ≤ 0 → ¬ 11 ≤ ((M.1 10 x4.toNatClampNeg) + 1) → vp_in ((M.1 10 x4.toNatClampNeg) + 1) 11)
    (h7 : ¬ 16 ≤ x4 → ¬ (z_C_holds x3 x4) = 0 → ¬ ((M.1 10 x4.toNatClampNeg) + 1) ≤ 0 → ¬ 11 ≤ ((M.1 10 x4.toNatClampNeg) + 1) → WX mi_W_fill 3 Q 42 [some (.ref 30), some (.ref 6), some (.ref 9), some (.int x3), some (.int (x4 + 1)), none] [] (wr M 31 ((M.1 10 x4.toNatClampNeg) + 1).toNatClampNeg ((M.1 31 ((M.1 10 x4.toNatClampNeg) + 1).toNatClampNeg) ||| (shl 1 x4)))) :
    WX mi_W_fill 3 Q 42 [some (.ref 30), some (.ref 6), some (.ref 9), some (.int x3), some (.int x4), none] [] M := by
  refine WX.run (pc' := 46) (L' := [some (.ref 30), some (.ref 6), some (.ref 9), some (.int x3), some (.int x4), none]) (st' := [.int 16, .int x4]) (M' := M) (P := True) 2 rfl trivial ?_
  refine WX.icmp_ge (off := 55) (tgt := 101) rfl rfl (fun c1 => ?_) (fun c1 => ?_)
  · exact WX.vret rfl rfl (h1 c1)
  · refine WX.run (pc' := 63) (L' := [some (.ref 30), some (.ref 6), some (.ref 9), some (.int x3), some (.int x4), some (.int ((M.1 10 x4.toNatClampNeg) + 1))]) (st' := [.int x4, .int x3]) (M' := M) (P := (True ∧ vp_in x4 16)) 9 rfl ⟨trivial, (b2 c1)⟩ ?_
    refine WX.callSN (ca := mi_C_holds) (n := 2) (d' := 1) (st := []) (As := [.int x3, .int x4]) rfl lk_5_30 ck_C_holds cs_C_holds rfl (by decide) rfl (Nat.le_of_ble_eq_true rfl) (by intro w hw; simp only [List.mem_cons, List.not_mem_nil, or_false] at hw; rcases hw with rfl | rfl <;> rfl) (Nat.le_of_ble_eq_true rfl) ?_
    refine wx_C_holds M x3 x4 ?_
    show WX mi_W_fill 3 Q 66 [some (.ref 30), some (.ref 6), some (.ref 9), some (.int x3), some (.int x4), some (.int ((M.1 10 x4.toNatClampNeg) + 1))] [.int (z_C_holds x3 x4)] M
    refine WX.if_eq (off := 29) (tgt := 95) rfl rfl (fun c2 => ?_) (fun c2 => ?_)
    · refine WX.run (pc' := 42) (L' := [some (.ref 30), some (.ref 6), some (.ref 9), some (.int x3), some (.int (x4 + 1)), some (.int ((M.1 10 x4.toNatClampNeg) + 1))]) (st' := []) (M' := M) (P := True) 2 rfl trivial ?_
      refine WX.forget2 (L' := [some (.ref 30), some (.ref 6), some (.ref 9), some (.int x3), some (.int (x4 + 1)), none]) ?_ ⟨Or.inr rfl, Or.inr rfl, Or.inr rfl, Or.inr rfl, Or.inr rfl, Or.inl rfl, trivial⟩
      exact (h3 c1 c2)
    · refine WX.run (pc' := 71) (L' := [some (.ref 30), some (.ref 6), some (.ref 9), some (.int x3), some (.int x4), some (.int ((M.1 10 x4.toNatClampNeg) + 1))]) (st' := [.int ((M.1 10 x4.toNatClampNeg) + 1)]) (M' := M) (P := True) 1 rfl trivial ?_
      refine WX.if_le (off := 24) (tgt := 95) rfl rfl (fun c3 => ?_) (fun c3 => ?_)
      · refine WX.run (pc' := 42) (L' := [some (.ref 30), some (.ref 6), some (.ref 9), some (.int x3), some (.int (x4 + 1)), some (.int ((M.1 10 x4.toNatClampNeg) + 1))]) (st' := []) (M' := M) (P := True) 2 rfl trivial ?_
        refine WX.forget2 (L' := [some (.ref 30), some (.ref 6), some (.ref 9), some (.int x3), some (.int (x4 + 1)), none]) ?_ ⟨Or.inr rfl, Or.inr rfl, Or.inr rfl, Or.inr rfl, Or.inr rfl, Or.inl rfl, trivial⟩
        exact (h4 c1 c2 c3)
      · refine WX.run (pc' := 78) (L' := [some (.ref 30), some (.ref 6), some (.ref 9), some (.int x3), some (.int x4), some (.int ((M.1 10 x4.toNatClampNeg) + 1))]) (st' := [.int 11, .int ((M.1 10 x4.toNatClampNeg) + 1)]) (M' := M) (P := True) 2 rfl trivial ?_
        refine WX.icmp_ge (off := 17) (tgt := 95) rfl rfl (fun c4 => ?_) (fun c4 => ?_)
        · refine WX.run (pc' := 42) (L' := [some (.ref 30), some (.ref 6), some (.ref 9), some (.int x3), some (.int (x4 + 1)), some (.int ((M.1 10 x4.toNatClampNeg) + 1))]) (st' := []) (M' := M) (P := True) 2 rfl trivial ?_
          refine WX.forget2 (L' := [some (.ref 30), some (.ref 6), some (.ref 9), some (.int x3), some (.int (x4 + 1)), none]) ?_ ⟨Or.inr rfl, Or.inr rfl, Or.inr rfl, Or.inr rfl, Or.inr rfl, Or.inl rfl, trivial⟩
          exact (h5 c1 c2 c3 c4)
        · refine WX.run (pc' := 42) (L' := [some (.ref 30), some (.ref 6), some (.ref 9), some (.int x3), some (.int (x4 + 1)), some (.int ((M.1 10 x4.toNatClampNeg) + 1))]) (st' := []) (M' := (wr M 31 ((M.1 10 x4.toNatClampNeg) + 1).toNatClampNeg ((M.1 31 ((M.1 10 x4.toNatClampNeg) + 1).toNatClampNeg) ||| (shl 1 x4)))) (P := ((True ∧ vp_in ((M.1 10 x4.toNatClampNeg) + 1) 11) ∧ vp_in ((M.1 10 x4.toNatClampNeg) + 1) 11)) 12 rfl ⟨⟨trivial, (b6 c1 c2 c3 c4)⟩, (b6 c1 c2 c3 c4)⟩ ?_
          refine WX.forget2 (L' := [some (.ref 30), some (.ref 6), some (.ref 9), some (.int x3), some (.int (x4 + 1)), none]) ?_ ⟨Or.inr rfl, Or.inr rfl, Or.inr rfl, Or.inr rfl, Or.inr rfl, Or.inl rfl, trivial⟩
          exact (h7 c1 c2 c3 c4)
theorem sg_W_tierOf_30_0 {Q : Option Value → Mem → Prop} (M : Mem) (x1 : Int32)
    (h1 : WX mi_W_tierOf 2 Q 2 [some (.ref 30), some (.int x1), some (.int 0)] [] M) :
    WX mi_W_tierOf 2 Q 0 [some (.ref 30), some (.int x1), none] [] M := by
  refine WX.run (pc' := 2) (L' := [some (.ref 30), some (.int x1), some (.int 0)]) (st' := []) (M' := M) (P := True) 2 rfl trivial ?_
  exact h1
theorem sg_W_tierOf_30_2 {Q : Option Value → Mem → Prop} (M : Mem) (x1 x2 : Int32)
    (h1 : 11 ≤ x2 → Q (some (.int (-9))) M)
    (b2 : ¬ 11 ≤ x2 → vp_in x2 11)
    (h3 : ¬ 11 ≤ x2 → (z_C_holds (M.1 31 x2.toNatClampNeg) x1) = 0 → WX mi_W_tierOf 2 Q 2 [some (.ref 30), some (.int x1), some (.int (x2 + 1))] [] M)
    (h4 : ¬ 11 ≤ x2 → ¬ (z_C_holds (M.1 31 x2.toNatClampNeg) x1) = 0 → Q (some (.int x2)) M) :
    WX mi_W_tierOf 2 Q 2 [some (.ref 30), some (.int x1), some (.int x2)] [] M := by
  refine WX.run (pc' := 5) (L' := [some (.ref 30), some (.int x1), some (.int x2)]) (st' := [.int 11, .int x2]) (M' := M) (P := True) 2 rfl trivial ?_
  refine WX.icmp_ge (off := 24) (tgt := 29) rfl rfl (fun c1 => ?_) (fun c1 => ?_)
  · refine WX.run (pc' := 31) (L' := [some (.ref 30), some (.int x1), some (.int x2)]) (st' := [.int (-9)]) (M' := M) (P := True) 1 rfl trivial ?_
    exact WX.iret rfl rfl (h1 c1)
  · refine WX.run (pc' := 15) (L' := [some (.ref 30), some (.int x1), some (.int x2)]) (st' := [.int x1, .int (M.1 31 x2.toNatClampNeg)]) (M' := M) (P := (True ∧ vp_in x2 11)) 5 rfl ⟨trivial, (b2 c1)⟩ ?_
    refine WX.callSN (ca := mi_C_holds) (n := 2) (d' := 1) (st := []) (As := [.int (M.1 31 x2.toNatClampNeg), .int x1]) rfl lk_5_30 ck_C_holds cs_C_holds rfl (by decide) rfl (Nat.le_of_ble_eq_true rfl) (by intro w hw; simp only [List.mem_cons, List.not_mem_nil, or_false] at hw; rcases hw with rfl | rfl <;> rfl) (Nat.le_of_ble_eq_true rfl) ?_
    refine wx_C_holds M (M.1 31 x2.toNatClampNeg) x1 ?_
    show WX mi_W_tierOf 2 Q 18 [some (.ref 30), some (.int x1), some (.int x2)] [.int (z_C_holds (M.1 31 x2.toNatClampNeg) x1)] M
    refine WX.if_eq (off := 5) (tgt := 23) rfl rfl (fun c2 => ?_) (fun c2 => ?_)
    · refine WX.run (pc' := 2) (L' := [some (.ref 30), some (.int x1), some (.int (x2 + 1))]) (st' := []) (M' := M) (P := True) 2 rfl trivial ?_
      exact (h3 c1 c2)
    · refine WX.run (pc' := 22) (L' := [some (.ref 30), some (.int x1), some (.int x2)]) (st' := [.int x2]) (M' := M) (P := True) 1 rfl trivial ?_
      exact WX.iret rfl rfl (h4 c1 c2)
theorem sg_W_onward_30_0 {Q : Option Value → Mem → Prop} (M : Mem) (x1 : Int32)
    (h1 : WX mi_W_tierOf 2 (fun rv M' => WX mi_W_onward 3 Q 12 [some (.ref 30), some (.int x1), some (.int (z_C_beside (shl 1 x1))), none, none, none] (rv.toList ++ []) M') 0 [some (.ref 30), some (.int x1), none] [] M) :
    WX mi_W_onward 3 Q 0 [some (.ref 30), some (.int x1), none, none, none, none] [] M := by
  refine WX.run (pc' := 3) (L' := [some (.ref 30), some (.int x1), none, none, none, none]) (st' := [.int (shl 1 x1)]) (M' := M) (P := True) 3 rfl trivial ?_
  refine WX.callSN (ca := mi_C_beside) (n := 1) (d' := 1) (st := []) (As := [.int (shl 1 x1)]) rfl lk_5_34 ck_C_beside cs_C_beside rfl (by decide) rfl (Nat.le_of_ble_eq_true rfl) (by intro w hw; simp only [List.mem_cons, List.not_mem_nil, or_false] at hw; rcases hw with rfl <;> rfl) (Nat.le_of_ble_eq_true rfl) ?_
  refine wx_C_beside M (shl 1 x1) ?_
  show WX mi_W_onward 3 Q 6 [some (.ref 30), some (.int x1), none, none, none, none] [.int (z_C_beside (shl 1 x1))] M
  refine WX.run (pc' := 9) (L' := [some (.ref 30), some (.int x1), some (.int (z_C_beside (shl 1 x1))), none, none, none]) (st' := [.int x1, .ref 30]) (M' := M) (P := True) 3 rfl trivial ?_
  refine WX.callV (ca := mi_W_tierOf) (n := 1) (d' := 2) (st := []) (As := [.int x1]) (q := 30) rfl lk_5_38 ck_W_tierOf cv_W_tierOf rfl (by decide) rfl (Nat.le_of_ble_eq_true rfl) ⟨by decide, rfl, by decide⟩ (by intro w hw; simp only [List.mem_cons, List.not_mem_nil, or_false] at hw; rcases hw with rfl <;> rfl) (Nat.le_of_ble_eq_true rfl) ?_
  exact h1
theorem sg_W_onward_30_12 {Q : Option Value → Mem → Prop} (M : Mem) (x1 x2 r : Int32)
    (h1 : WX mi_W_onward 3 Q 16 [some (.ref 30), some (.int x1), some (.int x2), some (.int r), some (.int 0), none] [] M) :
    WX mi_W_onward 3 Q 12 [some (.ref 30), some (.int x1), some (.int x2), none, none, none] [.int r] M := by
  refine WX.run (pc' := 16) (L' := [some (.ref 30), some (.int x1), some (.int x2), some (.int r), some (.int 0), none]) (st' := []) (M' := M) (P := True) 3 rfl trivial ?_
  exact h1
theorem sg_W_onward_30_16 {Q : Option Value → Mem → Prop} (M : Mem) (x1 x2 x3 x4 : Int32)
    (h1 : x3 ≤ x4 → Q (some (.int (-9))) M)
    (h2 : ¬ x3 ≤ x4 → 11 ≤ x4 → Q (some (.int (-9))) M)
    (b3 : ¬ x3 ≤ x4 → ¬ 11 ≤ x4 → vp_in x4 11)
    (h4 : ¬ x3 ≤ x4 → ¬ 11 ≤ x4 → (x2 &&& (M.1 31 x4.toNatClampNeg)) = 0 → WX mi_W_onward 3 Q 16 [some (.ref 30), some (.int x1), some (.int x2), some (.int x3), some (.int (x4 + 1)), none] [] M)
    (h5 : ¬ x3 ≤ x4 → ¬ 11 ≤ x4 → ¬ (x2 &&& (M.1 31 x4.toNatClampNeg)) = 0 → Q (some (.int (z_W_firstAround x1 (x2 &&& (M.1 31 x4.toNatClampNeg))))) M) :
    WX mi_W_onward 3 Q 16 [some (.ref 30), some (.int x1), some (.int x2), some (.int x3), some (.int x4), none] [] M := by
  refine WX.run (pc' := 19) (L' := [some (.ref 30), some (.int x1), some (.int x2), some (.int x3), some (.int x4), none]) (st' := [.int x3, .int x4]) (M' := M) (P := True) 2 rfl trivial ?_
  refine WX.icmp_ge (off := 39) (tgt := 58) rfl rfl (fun c1 => ?_) (fun c1 => ?_)
  · refine WX.run (pc' := 60) (L' := [some (.ref 30), some (.int x1), some (.int x2), some (.int x3), some (.int x4), none]) (st' := [.int (-9)]) (M' := M) (P := True) 1 rfl trivial ?_
    exact WX.iret rfl rfl (h1 c1)
  · refine WX.run (pc' := 26) (L' := [some (.ref 30), some (.int x1), some (.int x2), some (.int x3), some (.int x4), none]) (st' := [.int 11, .int x4]) (M' := M) (P := True) 2 rfl trivial ?_
    refine WX.icmp_ge (off := 32) (tgt := 58) rfl rfl (fun c2 => ?_) (fun c2 => ?_)
    · refine WX.run (pc' := 60) (L' := [some (.ref 30), some (.int x1), some (.int x2), some (.int x3), some (.int x4), none]) (st' := [.int (-9)]) (M' := M) (P := True) 1 rfl trivial ?_
      exact WX.iret rfl rfl (h2 c1 c2)
    · refine WX.run (pc' := 42) (L' := [some (.ref 30), some (.int x1), some (.int x2), some (.int x3), some (.int x4), some (.int (x2 &&& (M.1 31 x4.toNatClampNeg)))]) (st' := [.int (x2 &&& (M.1 31 x4.toNatClampNeg))]) (M' := M) (P := (True ∧ vp_in x4 11)) 8 rfl ⟨trivial, (b3 c1 c2)⟩ ?_
      refine WX.if_eq (off := 10) (tgt := 52) rfl rfl (fun c3 => ?_) (fun c3 => ?_)
      · refine WX.run (pc' := 16) (L' := [some (.ref 30), some (.int x1), some (.int x2), some (.int x3), some (.int (x4 + 1)), some (.int (x2 &&& (M.1 31 x4.toNatClampNeg)))]) (st' := []) (M' := M) (P := True) 2 rfl trivial ?_
        refine WX.forget2 (L' := [some (.ref 30), some (.int x1), some (.int x2), some (.int x3), some (.int (x4 + 1)), none]) ?_ ⟨Or.inr rfl, Or.inr rfl, Or.inr rfl, Or.inr rfl, Or.inr rfl, Or.inl rfl, trivial⟩
        exact (h4 c1 c2 c3)
      · refine WX.run (pc' := 48) (L' := [some (.ref 30), some (.int x1), some (.int x2), some (.int x3), some (.int x4), some (.int (x2 &&& (M.1 31 x4.toNatClampNeg)))]) (st' := [.int (x2 &&& (M.1 31 x4.toNatClampNeg)), .int x1]) (M' := M) (P := True) 2 rfl trivial ?_
        refine WX.callS (ca := mi_W_firstAround) (n := 2) (d' := 1) (st := []) (As := [.int x1, .int (x2 &&& (M.1 31 x4.toNatClampNeg))]) rfl lk_5_41 ck_W_firstAround cs_W_firstAround rfl (by decide) rfl (Nat.le_of_ble_eq_true rfl) (by intro w hw; simp only [List.mem_cons, List.not_mem_nil, or_false] at hw; rcases hw with rfl | rfl <;> rfl) (Nat.le_of_ble_eq_true rfl) ?_
        refine wx_W_firstAround M x1 (x2 &&& (M.1 31 x4.toNatClampNeg)) ?_
        show WX mi_W_onward 3 Q 51 [some (.ref 30), some (.int x1), some (.int x2), some (.int x3), some (.int x4), some (.int (x2 &&& (M.1 31 x4.toNatClampNeg)))] [.int (z_W_firstAround x1 (x2 &&& (M.1 31 x4.toNatClampNeg)))] M
        exact WX.iret rfl rfl (h5 c1 c2 c3)
theorem sg_W_endOf_30_0 {Q : Option Value → Mem → Prop} (M : Mem) (x1 : Int32)
    (h1 : WX mi_W_endOf 4 Q 4 [some (.ref 30), some (.int x1), some (.int x1), some (.int 0), none] [] M) :
    WX mi_W_endOf 4 Q 0 [some (.ref 30), some (.int x1), none, none, none] [] M := by
  refine WX.run (pc' := 4) (L' := [some (.ref 30), some (.int x1), some (.int x1), some (.int 0), none]) (st' := []) (M' := M) (P := True) 4 rfl trivial ?_
  exact h1
theorem sg_W_endOf_30_4 {Q : Option Value → Mem → Prop} (M : Mem) (x1 x2 x3 : Int32)
    (h1 : 16 ≤ x3 → Q (some (.int x2)) M)
    (h2 : ¬ 16 ≤ x3 → WX mi_W_onward 3 (fun rv M' => WX mi_W_endOf 4 Q 15 [some (.ref 30), some (.int x1), some (.int x2), some (.int x3), none] (rv.toList ++ []) M') 0 [some (.ref 30), some (.int x2), none, none, none, none] [] M) :
    WX mi_W_endOf 4 Q 4 [some (.ref 30), some (.int x1), some (.int x2), some (.int x3), none] [] M := by
  refine WX.run (pc' := 7) (L' := [some (.ref 30), some (.int x1), some (.int x2), some (.int x3), none]) (st' := [.int 16, .int x3]) (M' := M) (P := True) 2 rfl trivial ?_
  refine WX.icmp_ge (off := 28) (tgt := 35) rfl rfl (fun c1 => ?_) (fun c1 => ?_)
  · refine WX.run (pc' := 36) (L' := [some (.ref 30), some (.int x1), some (.int x2), some (.int x3), none]) (st' := [.int x2]) (M' := M) (P := True) 1 rfl trivial ?_
    exact WX.iret rfl rfl (h1 c1)
  · refine WX.run (pc' := 12) (L' := [some (.ref 30), some (.int x1), some (.int x2), some (.int x3), none]) (st' := [.int x2, .ref 30]) (M' := M) (P := True) 2 rfl trivial ?_
    refine WX.callV (ca := mi_W_onward) (n := 1) (d' := 3) (st := []) (As := [.int x2]) (q := 30) rfl lk_5_45 ck_W_onward cv_W_onward rfl (by decide) rfl (Nat.le_of_ble_eq_true rfl) ⟨by decide, rfl, by decide⟩ (by intro w hw; simp only [List.mem_cons, List.not_mem_nil, or_false] at hw; rcases hw with rfl <;> rfl) (Nat.le_of_ble_eq_true rfl) ?_
    exact (h2 c1)
theorem sg_W_endOf_30_15 {Q : Option Value → Mem → Prop} (M : Mem) (x1 x2 x3 r : Int32)
    (h1 : ¬ r = (-9) → WX mi_W_endOf 4 Q 4 [some (.ref 30), some (.int x1), some (.int r), some (.int (x3 + 1)), none] [] M)
    (h2 : r = (-9) → Q (some (.int x2)) M) :
    WX mi_W_endOf 4 Q 15 [some (.ref 30), some (.int x1), some (.int x2), some (.int x3), none] [.int r] M := by
  refine WX.run (pc' := 21) (L' := [some (.ref 30), some (.int x1), some (.int x2), some (.int x3), some (.int r)]) (st' := [.int (-9), .int r]) (M' := M) (P := True) 3 rfl trivial ?_
  refine WX.icmp_ne (off := 5) (tgt := 26) rfl rfl (fun c1 => ?_) (fun c1 => ?_)
  · refine WX.run (pc' := 4) (L' := [some (.ref 30), some (.int x1), some (.int r), some (.int (x3 + 1)), some (.int r)]) (st' := []) (M' := M) (P := True) 4 rfl trivial ?_
    refine WX.forget2 (L' := [some (.ref 30), some (.int x1), some (.int r), some (.int (x3 + 1)), none]) ?_ ⟨Or.inr rfl, Or.inr rfl, Or.inr rfl, Or.inr rfl, Or.inl rfl, trivial⟩
    exact (h1 c1)
  · refine WX.run (pc' := 25) (L' := [some (.ref 30), some (.int x1), some (.int x2), some (.int x3), some (.int r)]) (st' := [.int x2]) (M' := M) (P := True) 1 rfl trivial ?_
    exact WX.iret rfl rfl (h2 c1)
theorem sg_W_wayOf_30_0 {Q : Option Value → Mem → Prop} (M : Mem) (x1 : Int32)
    (h1 : WX mi_W_wayOf 4 Q 7 [some (.ref 30), some (.int x1), some (.int 0), some (.int x1), some (.int 0)] [] M) :
    WX mi_W_wayOf 4 Q 0 [some (.ref 30), some (.int x1), none, none, none] [] M := by
  refine WX.run (pc' := 7) (L' := [some (.ref 30), some (.int x1), some (.int 0), some (.int x1), some (.int 0)]) (st' := []) (M' := M) (P := True) 6 rfl trivial ?_
  exact h1
theorem sg_W_wayOf_30_7 {Q : Option Value → Mem → Prop} (M : Mem) (x1 x2 x3 x4 : Int32)
    (h1 : 16 ≤ x4 → Q (some (.int x2)) M)
    (h2 : ¬ 16 ≤ x4 → x3 = (-9) → Q (some (.int x2)) M)
    (h3 : ¬ 16 ≤ x4 → ¬ x3 = (-9) → WX mi_W_onward 3 (fun rv M' => WX mi_W_wayOf 4 Q 31 [some (.ref 30), some (.int x1), some (.int (x2 ||| (shl 1 x3))), some (.int x3), some (.int x4)] (rv.toList ++ []) M') 0 [some (.ref 30), some (.int x3), none, none, none, none] [] M) :
    WX mi_W_wayOf 4 Q 7 [some (.ref 30), some (.int x1), some (.int x2), some (.int x3), some (.int x4)] [] M := by
  refine WX.run (pc' := 11) (L' := [some (.ref 30), some (.int x1), some (.int x2), some (.int x3), some (.int x4)]) (st' := [.int 16, .int x4]) (M' := M) (P := True) 2 rfl trivial ?_
  refine WX.icmp_ge (off := 27) (tgt := 38) rfl rfl (fun c1 => ?_) (fun c1 => ?_)
  · refine WX.run (pc' := 39) (L' := [some (.ref 30), some (.int x1), some (.int x2), some (.int x3), some (.int x4)]) (st' := [.int x2]) (M' := M) (P := True) 1 rfl trivial ?_
    exact WX.iret rfl rfl (h1 c1)
  · refine WX.run (pc' := 17) (L' := [some (.ref 30), some (.int x1), some (.int x2), some (.int x3), some (.int x4)]) (st' := [.int (-9), .int x3]) (M' := M) (P := True) 2 rfl trivial ?_
    refine WX.icmp_eq (off := 21) (tgt := 38) rfl rfl (fun c2 => ?_) (fun c2 => ?_)
    · refine WX.run (pc' := 39) (L' := [some (.ref 30), some (.int x1), some (.int x2), some (.int x3), some (.int x4)]) (st' := [.int x2]) (M' := M) (P := True) 1 rfl trivial ?_
      exact WX.iret rfl rfl (h2 c1 c2)
    · refine WX.run (pc' := 28) (L' := [some (.ref 30), some (.int x1), some (.int (x2 ||| (shl 1 x3))), some (.int x3), some (.int x4)]) (st' := [.int x3, .ref 30]) (M' := M) (P := True) 8 rfl trivial ?_
      refine WX.callV (ca := mi_W_onward) (n := 1) (d' := 3) (st := []) (As := [.int x3]) (q := 30) rfl lk_5_45 ck_W_onward cv_W_onward rfl (by decide) rfl (Nat.le_of_ble_eq_true rfl) ⟨by decide, rfl, by decide⟩ (by intro w hw; simp only [List.mem_cons, List.not_mem_nil, or_false] at hw; rcases hw with rfl <;> rfl) (Nat.le_of_ble_eq_true rfl) ?_
      exact (h3 c1 c2)
theorem sg_W_wayOf_30_31 {Q : Option Value → Mem → Prop} (M : Mem) (x1 x2 x3 x4 r : Int32)
    (h1 : WX mi_W_wayOf 4 Q 7 [some (.ref 30), some (.int x1), some (.int x2), some (.int r), some (.int (x4 + 1))] [] M) :
    WX mi_W_wayOf 4 Q 31 [some (.ref 30), some (.int x1), some (.int x2), some (.int x3), some (.int x4)] [.int r] M := by
  refine WX.run (pc' := 7) (L' := [some (.ref 30), some (.int x1), some (.int x2), some (.int r), some (.int (x4 + 1))]) (st' := []) (M' := M) (P := True) 3 rfl trivial ?_
  exact h1
theorem sg_W_puddles_30_0 {Q : Option Value → Mem → Prop} (M : Mem)
    (h1 : WX mi_W_puddles 2 Q 11 [some (.ref 30), some (.int 0), some (.int (M.1 31 0)), some (.int 1)] [] M) :
    WX mi_W_puddles 2 Q 0 [some (.ref 30), none, none, none] [] M := by
  refine WX.run (pc' := 11) (L' := [some (.ref 30), some (.int 0), some (.int (M.1 31 0)), some (.int 1)]) (st' := []) (M' := M) (P := (True ∧ vp_in 0 11)) 9 rfl ⟨trivial, (vp_lit rfl)⟩ ?_
  exact h1
theorem sg_W_puddles_30_11 {Q : Option Value → Mem → Prop} (M : Mem) (x1 x2 x3 : Int32)
    (h1 : 11 ≤ x3 → Q (some (.int x1)) M)
    (b2 : ¬ 11 ≤ x3 → vp_in x3 11)
    (h3 : ¬ 11 ≤ x3 → WX mi_W_puddles 2 Q 11 [some (.ref 30), some (.int (x1 ||| ((M.1 31 x3.toNatClampNeg) &&& ((z_C_beside x2) ^^^ (-1))))), some (.int (x2 ||| (M.1 31 x3.toNatClampNeg))), some (.int (x3 + 1))] [] M) :
    WX mi_W_puddles 2 Q 11 [some (.ref 30), some (.int x1), some (.int x2), some (.int x3)] [] M := by
  refine WX.run (pc' := 14) (L' := [some (.ref 30), some (.int x1), some (.int x2), some (.int x3)]) (st' := [.int 11, .int x3]) (M' := M) (P := True) 2 rfl trivial ?_
  refine WX.icmp_ge (off := 34) (tgt := 48) rfl rfl (fun c1 => ?_) (fun c1 => ?_)
  · refine WX.run (pc' := 49) (L' := [some (.ref 30), some (.int x1), some (.int x2), some (.int x3)]) (st' := [.int x1]) (M' := M) (P := True) 1 rfl trivial ?_
    exact WX.iret rfl rfl (h1 c1)
  · refine WX.run (pc' := 25) (L' := [some (.ref 30), some (.int x1), some (.int x2), some (.int x3)]) (st' := [.int x2, .int (M.1 31 x3.toNatClampNeg), .int x1]) (M' := M) (P := (True ∧ vp_in x3 11)) 6 rfl ⟨trivial, (b2 c1)⟩ ?_
    refine WX.callSN (ca := mi_C_beside) (n := 1) (d' := 1) (st := [.int (M.1 31 x3.toNatClampNeg), .int x1]) (As := [.int x2]) rfl lk_5_34 ck_C_beside cs_C_beside rfl (by decide) rfl (Nat.le_of_ble_eq_true rfl) (by intro w hw; simp only [List.mem_cons, List.not_mem_nil, or_false] at hw; rcases hw with rfl <;> rfl) (Nat.le_of_ble_eq_true rfl) ?_
    refine wx_C_beside M x2 ?_
    show WX mi_W_puddles 2 Q 28 [some (.ref 30), some (.int x1), some (.int x2), some (.int x3)] [.int (z_C_beside x2), .int (M.1 31 x3.toNatClampNeg), .int x1] M
    refine WX.run (pc' := 11) (L' := [some (.ref 30), some (.int (x1 ||| ((M.1 31 x3.toNatClampNeg) &&& ((z_C_beside x2) ^^^ (-1))))), some (.int (x2 ||| (M.1 31 x3.toNatClampNeg))), some (.int (x3 + 1))]) (st' := []) (M' := M) (P := (True ∧ vp_in x3 11)) 14 rfl ⟨trivial, (b2 c1)⟩ ?_
    exact (h3 c1)
theorem sg_E_weigh_32_0 {Q : Option Value → Mem → Prop} (M : Mem) (x1 x2 x3 x4 : Int32)
    (h1 : x1 < (M.1 32 2) → Q none (wr (wr (wr (wr M 32 0 x2) 32 1 x3) 32 2 x1) 32 3 x4))
    (h2 : ¬ x1 < (M.1 32 2) → ¬ x1 = (M.1 32 2) → Q none M)
    (h3 : ¬ x1 < (M.1 32 2) → x1 = (M.1 32 2) → (M.1 32 3) ≤ x4 → Q none M)
    (h4 : ¬ x1 < (M.1 32 2) → x1 = (M.1 32 2) → ¬ (M.1 32 3) ≤ x4 → Q none (wr (wr (wr (wr M 32 0 x2) 32 1 x3) 32 2 x1) 32 3 x4)) :
    WX mi_E_weigh 1 Q 0 [some (.ref 32), some (.int x1), some (.int x2), some (.int x3), some (.int x4)] [] M := by
  refine WX.run (pc' := 5) (L' := [some (.ref 32), some (.int x1), some (.int x2), some (.int x3), some (.int x4)]) (st' := [.int (M.1 32 2), .int x1]) (M' := M) (P := True) 3 rfl trivial ?_
  refine WX.icmp_lt (off := 20) (tgt := 25) rfl rfl (fun c1 => ?_) (fun c1 => ?_)
  · refine WX.run (pc' := 46) (L' := [some (.ref 32), some (.int x1), some (.int x2), some (.int x3), some (.int x4)]) (st' := []) (M' := (wr (wr (wr (wr M 32 0 x2) 32 1 x3) 32 2 x1) 32 3 x4)) (P := True) 12 rfl trivial ?_
    exact WX.vret rfl rfl (h1 c1)
  · refine WX.run (pc' := 13) (L' := [some (.ref 32), some (.int x1), some (.int x2), some (.int x3), some (.int x4)]) (st' := [.int (M.1 32 2), .int x1]) (M' := M) (P := True) 3 rfl trivial ?_
    refine WX.icmp_ne (off := 33) (tgt := 46) rfl rfl (fun c2 => ?_) (fun c2 => ?_)
    · exact WX.vret rfl rfl (h2 c1 c2)
    · refine WX.run (pc' := 22) (L' := [some (.ref 32), some (.int x1), some (.int x2), some (.int x3), some (.int x4)]) (st' := [.int (M.1 32 3), .int x4]) (M' := M) (P := True) 3 rfl trivial ?_
      refine WX.icmp_ge (off := 24) (tgt := 46) rfl rfl (fun c3 => ?_) (fun c3 => ?_)
      · exact WX.vret rfl rfl (h3 c1 c2 c3)
      · refine WX.run (pc' := 46) (L' := [some (.ref 32), some (.int x1), some (.int x2), some (.int x3), some (.int x4)]) (st' := []) (M' := (wr (wr (wr (wr M 32 0 x2) 32 1 x3) 32 2 x1) 32 3 x4)) (P := True) 12 rfl trivial ?_
        exact WX.vret rfl rfl (h4 c1 c2 c3)
theorem sg_E_tryHeights_32_30_0 {Q : Option Value → Mem → Prop} (M : Mem) (x2 x3 : Int32)
    (b1 : vp_in x3 11)
    (h2 : WX mi_E_tryHeights 3 Q 21 [some (.ref 32), some (.ref 30), some (.int x2), some (.int x3), some (.int (shl 1 x2)), some (.int 1)] [] (wr M 31 x3.toNatClampNeg ((M.1 31 x3.toNatClampNeg) &&& ((shl 1 x2) ^^^ (-1))))) :
    WX mi_E_tryHeights 3 Q 0 [some (.ref 32), some (.ref 30), some (.int x2), some (.int x3), none, none] [] M := by
  refine WX.run (pc' := 21) (L' := [some (.ref 32), some (.ref 30), some (.int x2), some (.int x3), some (.int (shl 1 x2)), some (.int 1)]) (st' := []) (M' := (wr M 31 x3.toNatClampNeg ((M.1 31 x3.toNatClampNeg) &&& ((shl 1 x2) ^^^ (-1))))) (P := ((True ∧ vp_in x3 11) ∧ vp_in x3 11)) 16 rfl ⟨⟨trivial, b1⟩, b1⟩ ?_
  exact h2
theorem sg_E_tryHeights_32_30_21 {Q : Option Value → Mem → Prop} (M : Mem) (x2 x3 x4 x5 : Int32)
    (b1 : 11 ≤ x5 → vp_in x3 11)
    (h2 : 11 ≤ x5 → Q none (wr M 31 x3.toNatClampNeg ((M.1 31 x3.toNatClampNeg) ||| x4)))
    (h3 : ¬ 11 ≤ x5 → x5 = x3 → WX mi_E_tryHeights 3 Q 21 [some (.ref 32), some (.ref 30), some (.int x2), some (.int x3), some (.int x4), some (.int (x5 + 1))] [] M)
    (b4 : ¬ 11 ≤ x5 → ¬ x5 = x3 → vp_in x5 11)
    (h5 : ¬ 11 ≤ x5 → ¬ x5 = x3 → WX mi_W_puddles 2 (fun rv M' => WX mi_E_tryHeights 3 Q 51 [some (.ref 32), some (.ref 30), some (.int x2), some (.int x3), some (.int x4), some (.int x5)] (rv.toList ++ [.ref 32]) M') 0 [some (.ref 30), none, none, none] [] (wr M 31 x5.toNatClampNeg ((M.1 31 x5.toNatClampNeg) ||| x4))) :
    WX mi_E_tryHeights 3 Q 21 [some (.ref 32), some (.ref 30), some (.int x2), some (.int x3), some (.int x4), some (.int x5)] [] M := by
  refine WX.run (pc' := 25) (L' := [some (.ref 32), some (.ref 30), some (.int x2), some (.int x3), some (.int x4), some (.int x5)]) (st' := [.int 11, .int x5]) (M' := M) (P := True) 2 rfl trivial ?_
  refine WX.icmp_ge (off := 64) (tgt := 89) rfl rfl (fun c1 => ?_) (fun c1 => ?_)
  · refine WX.run (pc' := 100) (L' := [some (.ref 32), some (.ref 30), some (.int x2), some (.int x3), some (.int x4), some (.int x5)]) (st' := []) (M' := (wr M 31 x3.toNatClampNeg ((M.1 31 x3.toNatClampNeg) ||| x4))) (P := ((True ∧ vp_in x3 11) ∧ vp_in x3 11)) 8 rfl ⟨⟨trivial, (b1 c1)⟩, (b1 c1)⟩ ?_
    exact WX.vret rfl rfl (h2 c1)
  · refine WX.run (pc' := 31) (L' := [some (.ref 32), some (.ref 30), some (.int x2), some (.int x3), some (.int x4), some (.int x5)]) (st' := [.int x3, .int x5]) (M' := M) (P := True) 2 rfl trivial ?_
    refine WX.icmp_eq (off := 52) (tgt := 83) rfl rfl (fun c2 => ?_) (fun c2 => ?_)
    · refine WX.run (pc' := 21) (L' := [some (.ref 32), some (.ref 30), some (.int x2), some (.int x3), some (.int x4), some (.int (x5 + 1))]) (st' := []) (M' := M) (P := True) 2 rfl trivial ?_
      exact (h3 c1 c2)
    · refine WX.run (pc' := 48) (L' := [some (.ref 32), some (.ref 30), some (.int x2), some (.int x3), some (.int x4), some (.int x5)]) (st' := [.ref 30, .ref 32]) (M' := (wr M 31 x5.toNatClampNeg ((M.1 31 x5.toNatClampNeg) ||| x4))) (P := ((True ∧ vp_in x5 11) ∧ vp_in x5 11)) 10 rfl ⟨⟨trivial, (b4 c1 c2)⟩, (b4 c1 c2)⟩ ?_
      refine WX.callV (ca := mi_W_puddles) (n := 0) (d' := 2) (st := [.ref 32]) (As := []) (q := 30) rfl lk_1_21 ck_W_puddles cv_W_puddles rfl (by decide) rfl (Nat.le_of_ble_eq_true rfl) ⟨by decide, rfl, by decide⟩ (fun w hw => absurd hw List.not_mem_nil) (Nat.le_of_ble_eq_true rfl) ?_
      exact (h5 c1 c2)
theorem sg_E_tryHeights_32_30_51 {Q : Option Value → Mem → Prop} (M : Mem) (x2 x3 x4 x5 r : Int32)
    (h1 : WX mi_E_weigh 1 (fun rv M' => WX mi_E_tryHeights 3 Q 69 [some (.ref 32), some (.ref 30), some (.int x2), some (.int x3), some (.int x4), some (.int x5)] (rv.toList ++ []) M') 0 [some (.ref 32), some (.int (z_I_bitCount r)), some (.int x2), some (.int (x5 - 1)), some (.int (if 0 ≤ (x5 - x3) then (x5 - x3) else 0 - (x5 - x3)))] [] M) :
    WX mi_E_tryHeights 3 Q 51 [some (.ref 32), some (.ref 30), some (.int x2), some (.int x3), some (.int x4), some (.int x5)] [.int r, .ref 32] M := by
  refine WX.callS (ca := mi_I_bitCount) (n := 1) (d' := 1) (st := [.ref 32]) (As := [.int r]) rfl lk_1_27 ck_I_bitCount cs_I_bitCount rfl (by decide) rfl (Nat.le_of_ble_eq_true rfl) (by intro w hw; simp only [List.mem_cons, List.not_mem_nil, or_false] at hw; rcases hw with rfl <;> rfl) (Nat.le_of_ble_eq_true rfl) ?_
  refine wx_I_bitCount M r ?_
  show WX mi_E_tryHeights 3 Q 54 [some (.ref 32), some (.ref 30), some (.int x2), some (.int x3), some (.int x4), some (.int x5)] [.int (z_I_bitCount r), .ref 32] M
  refine WX.run (pc' := 63) (L' := [some (.ref 32), some (.ref 30), some (.int x2), some (.int x3), some (.int x4), some (.int x5)]) (st' := [.int (x5 - x3), .int (x5 - 1), .int x2, .int (z_I_bitCount r), .ref 32]) (M' := M) (P := True) 7 rfl trivial ?_
  refine WX.mabs rfl (inAt_g (i := 515) (by decide +kernel) rfl) (by decide) (Nat.le_of_ble_eq_true rfl) ?_
  refine WX.callV (ca := mi_E_weigh) (n := 4) (d' := 1) (st := []) (As := [.int (z_I_bitCount r), .int x2, .int (x5 - 1), .int (if 0 ≤ (x5 - x3) then (x5 - x3) else 0 - (x5 - x3))]) (q := 32) rfl lk_1_52 ck_E_weigh cv_E_weigh rfl (by decide) rfl (Nat.le_of_ble_eq_true rfl) ⟨by decide, rfl, by decide⟩ (by intro w hw; simp only [List.mem_cons, List.not_mem_nil, or_false] at hw; rcases hw with rfl | rfl | rfl | rfl <;> rfl) (Nat.le_of_ble_eq_true rfl) ?_
  exact h1
theorem sg_E_tryHeights_32_30_69 {Q : Option Value → Mem → Prop} (M : Mem) (x2 x3 x4 x5 : Int32)
    (b1 : vp_in x5 11)
    (h2 : WX mi_E_tryHeights 3 Q 21 [some (.ref 32), some (.ref 30), some (.int x2), some (.int x3), some (.int x4), some (.int (x5 + 1))] [] (wr M 31 x5.toNatClampNeg ((M.1 31 x5.toNatClampNeg) &&& (x4 ^^^ (-1))))) :
    WX mi_E_tryHeights 3 Q 69 [some (.ref 32), some (.ref 30), some (.int x2), some (.int x3), some (.int x4), some (.int x5)] [] M := by
  refine WX.run (pc' := 21) (L' := [some (.ref 32), some (.ref 30), some (.int x2), some (.int x3), some (.int x4), some (.int (x5 + 1))]) (st' := []) (M' := (wr M 31 x5.toNatClampNeg ((M.1 31 x5.toNatClampNeg) &&& (x4 ^^^ (-1))))) (P := ((True ∧ vp_in x5 11) ∧ vp_in x5 11)) 12 rfl ⟨⟨trivial, b1⟩, b1⟩ ?_
  exact h2
theorem sg_E_search_32_30_0 {Q : Option Value → Mem → Prop} (M : Mem)
    (h1 : WX mi_W_puddles 2 (fun rv M' => WX mi_E_search 4 Q 22 [some (.ref 32), some (.ref 30), none, none] (rv.toList ++ [.ref 32]) M') 0 [some (.ref 30), none, none, none] [] (wr (wr (wr M 32 0 (-9)) 32 1 (-9)) 32 3 0)) :
    WX mi_E_search 4 Q 0 [some (.ref 32), some (.ref 30), none, none] [] M := by
  refine WX.run (pc' := 19) (L' := [some (.ref 32), some (.ref 30), none, none]) (st' := [.ref 30, .ref 32]) (M' := (wr (wr (wr M 32 0 (-9)) 32 1 (-9)) 32 3 0)) (P := True) 11 rfl trivial ?_
  refine WX.callV (ca := mi_W_puddles) (n := 0) (d' := 2) (st := [.ref 32]) (As := []) (q := 30) rfl lk_1_21 ck_W_puddles cv_W_puddles rfl (by decide) rfl (Nat.le_of_ble_eq_true rfl) ⟨by decide, rfl, by decide⟩ (fun w hw => absurd hw List.not_mem_nil) (Nat.le_of_ble_eq_true rfl) ?_
  exact h1
theorem sg_E_search_32_30_22 {Q : Option Value → Mem → Prop} (M : Mem) (r : Int32)
    (h1 : WX mi_E_search 4 Q 30 [some (.ref 32), some (.ref 30), some (.int 0), none] [] (wr M 32 2 (z_I_bitCount r))) :
    WX mi_E_search 4 Q 22 [some (.ref 32), some (.ref 30), none, none] [.int r, .ref 32] M := by
  refine WX.callS (ca := mi_I_bitCount) (n := 1) (d' := 1) (st := [.ref 32]) (As := [.int r]) rfl lk_1_27 ck_I_bitCount cs_I_bitCount rfl (by decide) rfl (Nat.le_of_ble_eq_true rfl) (by intro w hw; simp only [List.mem_cons, List.not_mem_nil, or_false] at hw; rcases hw with rfl <;> rfl) (Nat.le_of_ble_eq_true rfl) ?_
  refine wx_I_bitCount M r ?_
  show WX mi_E_search 4 Q 25 [some (.ref 32), some (.ref 30), none, none] [.int (z_I_bitCount r), .ref 32] M
  refine WX.run (pc' := 30) (L' := [some (.ref 32), some (.ref 30), some (.int 0), none]) (st' := []) (M' := (wr M 32 2 (z_I_bitCount r))) (P := True) 3 rfl trivial ?_
  exact h1
theorem sg_E_search_32_30_30 {Q : Option Value → Mem → Prop} (M : Mem) (x2 : Int32)
    (h1 : 16 ≤ x2 → Q none M)
    (h2 : ¬ 16 ≤ x2 → WX mi_W_tierOf 2 (fun rv M' => WX mi_E_search 4 Q 41 [some (.ref 32), some (.ref 30), some (.int x2), none] (rv.toList ++ []) M') 0 [some (.ref 30), some (.int x2), none] [] M) :
    WX mi_E_search 4 Q 30 [some (.ref 32), some (.ref 30), some (.int x2), none] [] M := by
  refine WX.run (pc' := 33) (L' := [some (.ref 32), some (.ref 30), some (.int x2), none]) (st' := [.int 16, .int x2]) (M' := M) (P := True) 2 rfl trivial ?_
  refine WX.icmp_ge (off := 32) (tgt := 65) rfl rfl (fun c1 => ?_) (fun c1 => ?_)
  · exact WX.vret rfl rfl (h1 c1)
  · refine WX.run (pc' := 38) (L' := [some (.ref 32), some (.ref 30), some (.int x2), none]) (st' := [.int x2, .ref 30]) (M' := M) (P := True) 2 rfl trivial ?_
    refine WX.callV (ca := mi_W_tierOf) (n := 1) (d' := 2) (st := []) (As := [.int x2]) (q := 30) rfl lk_1_36 ck_W_tierOf cv_W_tierOf rfl (by decide) rfl (Nat.le_of_ble_eq_true rfl) ⟨by decide, rfl, by decide⟩ (by intro w hw; simp only [List.mem_cons, List.not_mem_nil, or_false] at hw; rcases hw with rfl <;> rfl) (Nat.le_of_ble_eq_true rfl) ?_
    exact (h2 c1)
theorem sg_E_search_32_30_41 {Q : Option Value → Mem → Prop} (M : Mem) (x2 r : Int32)
    (h1 : r ≤ 0 → WX mi_E_search 4 Q 30 [some (.ref 32), some (.ref 30), some (.int (x2 + 1)), none] [] M)
    (h2 : ¬ r ≤ 0 → 11 ≤ r → WX mi_E_search 4 Q 30 [some (.ref 32), some (.ref 30), some (.int (x2 + 1)), none] [] M)
    (h3 : ¬ r ≤ 0 → ¬ 11 ≤ r → WX mi_E_tryHeights 3 (fun rv M' => WX mi_E_search 4 Q 59 [some (.ref 32), some (.ref 30), some (.int x2), some (.int r)] (rv.toList ++ []) M') 0 [some (.ref 32), some (.ref 30), some (.int x2), some (.int r), none, none] [] M) :
    WX mi_E_search 4 Q 41 [some (.ref 32), some (.ref 30), some (.int x2), none] [.int r] M := by
  refine WX.run (pc' := 43) (L' := [some (.ref 32), some (.ref 30), some (.int x2), some (.int r)]) (st' := [.int r]) (M' := M) (P := True) 2 rfl trivial ?_
  refine WX.if_le (off := 16) (tgt := 59) rfl rfl (fun c1 => ?_) (fun c1 => ?_)
  · refine WX.run (pc' := 30) (L' := [some (.ref 32), some (.ref 30), some (.int (x2 + 1)), some (.int r)]) (st' := []) (M' := M) (P := True) 2 rfl trivial ?_
    refine WX.forget2 (L' := [some (.ref 32), some (.ref 30), some (.int (x2 + 1)), none]) ?_ ⟨Or.inr rfl, Or.inr rfl, Or.inr rfl, Or.inl rfl, trivial⟩
    exact (h1 c1)
  · refine WX.run (pc' := 49) (L' := [some (.ref 32), some (.ref 30), some (.int x2), some (.int r)]) (st' := [.int 11, .int r]) (M' := M) (P := True) 2 rfl trivial ?_
    refine WX.icmp_ge (off := 10) (tgt := 59) rfl rfl (fun c2 => ?_) (fun c2 => ?_)
    · refine WX.run (pc' := 30) (L' := [some (.ref 32), some (.ref 30), some (.int (x2 + 1)), some (.int r)]) (st' := []) (M' := M) (P := True) 2 rfl trivial ?_
      refine WX.forget2 (L' := [some (.ref 32), some (.ref 30), some (.int (x2 + 1)), none]) ?_ ⟨Or.inr rfl, Or.inr rfl, Or.inr rfl, Or.inl rfl, trivial⟩
      exact (h2 c1 c2)
    · refine WX.run (pc' := 56) (L' := [some (.ref 32), some (.ref 30), some (.int x2), some (.int r)]) (st' := [.int r, .int x2, .ref 30, .ref 32]) (M' := M) (P := True) 4 rfl trivial ?_
      refine WX.callV (ca := mi_E_tryHeights) (n := 3) (d' := 3) (st := []) (As := [.ref 30, .int x2, .int r]) (q := 32) rfl lk_1_39 ck_E_tryHeights cv_E_tryHeights rfl (by decide) rfl (Nat.le_of_ble_eq_true rfl) ⟨by decide, rfl, by decide⟩ (by intro w hw; simp only [List.mem_cons, List.not_mem_nil, or_false] at hw; rcases hw with rfl | rfl | rfl <;> rfl) (Nat.le_of_ble_eq_true rfl) ?_
      exact (h3 c1 c2)
theorem sg_E_search_32_30_59 {Q : Option Value → Mem → Prop} (M : Mem) (x2 x3 : Int32)
    (h1 : WX mi_E_search 4 Q 30 [some (.ref 32), some (.ref 30), some (.int (x2 + 1)), none] [] M) :
    WX mi_E_search 4 Q 59 [some (.ref 32), some (.ref 30), some (.int x2), some (.int x3)] [] M := by
  refine WX.run (pc' := 30) (L' := [some (.ref 32), some (.ref 30), some (.int (x2 + 1)), some (.int x3)]) (st' := []) (M' := M) (P := True) 2 rfl trivial ?_
  refine WX.forget2 (L' := [some (.ref 32), some (.ref 30), some (.int (x2 + 1)), none]) ?_ ⟨Or.inr rfl, Or.inr rfl, Or.inr rfl, Or.inl rfl, trivial⟩
  exact h1
theorem sg_P_leastFor_33_0 {Q : Option Value → Mem → Prop} (M : Mem) (x1 : Int32)
    (h1 : ((x1 - (4 * (if (x1 / 4) < (M.1 36 0) then (x1 / 4) else (M.1 36 0)))) - (2 * (if ((x1 - (4 * (if (x1 / 4) < (M.1 36 0) then (x1 / 4) else (M.1 36 0)))) / 2) < ((M.1 36 1) + (M.1 36 2)) then ((x1 - (4 * (if (x1 / 4) < (M.1 36 0) then (x1 / 4) else (M.1 36 0)))) / 2) else ((M.1 36 1) + (M.1 36 2))))) ≤ (M.1 36 3) → Q (some (.int (((if (x1 / 4) < (M.1 36 0) then (x1 / 4) else (M.1 36 0)) + (if ((x1 - (4 * (if (x1 / 4) < (M.1 36 0) then (x1 / 4) else (M.1 36 0)))) / 2) < ((M.1 36 1) + (M.1 36 2)) then ((x1 - (4 * (if (x1 / 4) < (M.1 36 0) then (x1 / 4) else (M.1 36 0)))) / 2) else ((M.1 36 1) + (M.1 36 2)))) + ((x1 - (4 * (if (x1 / 4) < (M.1 36 0) then (x1 / 4) else (M.1 36 0)))) - (2 * (if ((x1 - (4 * (if (x1 / 4) < (M.1 36 0) then (x1 / 4) else (M.1 36 0)))) / 2) < ((M.1 36 1) + (M.1 36 2)) then ((x1 - (4 * (if (x1 / 4) < (M.1 36 0) then (x1 / 4) else (M.1 36 0)))) / 2) else ((M.1 36 1) + (M.1 36 2)))))))) M)
    (h2 : ¬ ((x1 - (4 * (if (x1 / 4) < (M.1 36 0) then (x1 / 4) else (M.1 36 0)))) - (2 * (if ((x1 - (4 * (if (x1 / 4) < (M.1 36 0) then (x1 / 4) else (M.1 36 0)))) / 2) < ((M.1 36 1) + (M.1 36 2)) then ((x1 - (4 * (if (x1 / 4) < (M.1 36 0) then (x1 / 4) else (M.1 36 0)))) / 2) else ((M.1 36 1) + (M.1 36 2))))) ≤ (M.1 36 3) → Q (some (.int 99)) M) :
    WX mi_P_leastFor 2 Q 0 [some (.ref 33), some (.int x1), none, none, none] [] M := by
  refine WX.run (pc' := 9) (L' := [some (.ref 33), some (.int x1), none, none, none]) (st' := [.int (x1 / 4), .int (M.1 36 0)]) (M' := M) (P := ((True ∧ vp_in 0 4) ∧ ¬ 4 = 0)) 7 rfl ⟨⟨trivial, (vp_lit rfl)⟩, (by decide)⟩ ?_
  refine WX.mmin rfl (inAt_g (i := 544) (by decide +kernel) rfl) (by decide) (Nat.le_of_ble_eq_true rfl) ?_
  refine WX.run (pc' := 35) (L' := [some (.ref 33), some (.int x1), some (.int (if (x1 / 4) < (M.1 36 0) then (x1 / 4) else (M.1 36 0))), some (.int (x1 - (4 * (if (x1 / 4) < (M.1 36 0) then (x1 / 4) else (M.1 36 0))))), none]) (st' := [.int ((x1 - (4 * (if (x1 / 4) < (M.1 36 0) then (x1 / 4) else (M.1 36 0)))) / 2), .int ((M.1 36 1) + (M.1 36 2))]) (M' := M) (P := (((True ∧ vp_in 1 4) ∧ vp_in 2 4) ∧ ¬ 2 = 0)) 19 rfl ⟨⟨⟨trivial, (vp_lit rfl)⟩, (vp_lit rfl)⟩, (by decide)⟩ ?_
  refine WX.mmin rfl (inAt_g (i := 544) (by decide +kernel) rfl) (by decide) (Nat.le_of_ble_eq_true rfl) ?_
  refine WX.run (pc' := 54) (L' := [some (.ref 33), some (.int x1), some (.int (if (x1 / 4) < (M.1 36 0) then (x1 / 4) else (M.1 36 0))), some (.int ((x1 - (4 * (if (x1 / 4) < (M.1 36 0) then (x1 / 4) else (M.1 36 0)))) - (2 * (if ((x1 - (4 * (if (x1 / 4) < (M.1 36 0) then (x1 / 4) else (M.1 36 0)))) / 2) < ((M.1 36 1) + (M.1 36 2)) then ((x1 - (4 * (if (x1 / 4) < (M.1 36 0) then (x1 / 4) else (M.1 36 0)))) / 2) else ((M.1 36 1) + (M.1 36 2)))))), some (.int (if ((x1 - (4 * (if (x1 / 4) < (M.1 36 0) then (x1 / 4) else (M.1 36 0)))) / 2) < ((M.1 36 1) + (M.1 36 2)) then ((x1 - (4 * (if (x1 / 4) < (M.1 36 0) then (x1 / 4) else (M.1 36 0)))) / 2) else ((M.1 36 1) + (M.1 36 2))))]) (st' := [.int (M.1 36 3), .int ((x1 - (4 * (if (x1 / 4) < (M.1 36 0) then (x1 / 4) else (M.1 36 0)))) - (2 * (if ((x1 - (4 * (if (x1 / 4) < (M.1 36 0) then (x1 / 4) else (M.1 36 0)))) / 2) < ((M.1 36 1) + (M.1 36 2)) then ((x1 - (4 * (if (x1 / 4) < (M.1 36 0) then (x1 / 4) else (M.1 36 0)))) / 2) else ((M.1 36 1) + (M.1 36 2)))))]) (M' := M) (P := (True ∧ vp_in 3 4)) 12 rfl ⟨trivial, (vp_lit rfl)⟩ ?_
  refine WX.icmp_le (off := 8) (tgt := 62) rfl rfl (fun c1 => ?_) (fun c1 => ?_)
  · refine WX.run (pc' := 68) (L' := [some (.ref 33), some (.int x1), some (.int (if (x1 / 4) < (M.1 36 0) then (x1 / 4) else (M.1 36 0))), some (.int ((x1 - (4 * (if (x1 / 4) < (M.1 36 0) then (x1 / 4) else (M.1 36 0)))) - (2 * (if ((x1 - (4 * (if (x1 / 4) < (M.1 36 0) then (x1 / 4) else (M.1 36 0)))) / 2) < ((M.1 36 1) + (M.1 36 2)) then ((x1 - (4 * (if (x1 / 4) < (M.1 36 0) then (x1 / 4) else (M.1 36 0)))) / 2) else ((M.1 36 1) + (M.1 36 2)))))), some (.int (if ((x1 - (4 * (if (x1 / 4) < (M.1 36 0) then (x1 / 4) else (M.1 36 0)))) / 2) < ((M.1 36 1) + (M.1 36 2)) then ((x1 - (4 * (if (x1 / 4) < (M.1 36 0) then (x1 / 4) else (M.1 36 0)))) / 2) else ((M.1 36 1) + (M.1 36 2))))]) (st' := [.int (((if (x1 / 4) < (M.1 36 0) then (x1 / 4) else (M.1 36 0)) + (if ((x1 - (4 * (if (x1 / 4) < (M.1 36 0) then (x1 / 4) else (M.1 36 0)))) / 2) < ((M.1 36 1) + (M.1 36 2)) then ((x1 - (4 * (if (x1 / 4) < (M.1 36 0) then (x1 / 4) else (M.1 36 0)))) / 2) else ((M.1 36 1) + (M.1 36 2)))) + ((x1 - (4 * (if (x1 / 4) < (M.1 36 0) then (x1 / 4) else (M.1 36 0)))) - (2 * (if ((x1 - (4 * (if (x1 / 4) < (M.1 36 0) then (x1 / 4) else (M.1 36 0)))) / 2) < ((M.1 36 1) + (M.1 36 2)) then ((x1 - (4 * (if (x1 / 4) < (M.1 36 0) then (x1 / 4) else (M.1 36 0)))) / 2) else ((M.1 36 1) + (M.1 36 2))))))]) (M' := M) (P := True) 5 rfl trivial ?_
    exact WX.iret rfl rfl (h1 c1)
  · refine WX.run (pc' := 68) (L' := [some (.ref 33), some (.int x1), some (.int (if (x1 / 4) < (M.1 36 0) then (x1 / 4) else (M.1 36 0))), some (.int ((x1 - (4 * (if (x1 / 4) < (M.1 36 0) then (x1 / 4) else (M.1 36 0)))) - (2 * (if ((x1 - (4 * (if (x1 / 4) < (M.1 36 0) then (x1 / 4) else (M.1 36 0)))) / 2) < ((M.1 36 1) + (M.1 36 2)) then ((x1 - (4 * (if (x1 / 4) < (M.1 36 0) then (x1 / 4) else (M.1 36 0)))) / 2) else ((M.1 36 1) + (M.1 36 2)))))), some (.int (if ((x1 - (4 * (if (x1 / 4) < (M.1 36 0) then (x1 / 4) else (M.1 36 0)))) / 2) < ((M.1 36 1) + (M.1 36 2)) then ((x1 - (4 * (if (x1 / 4) < (M.1 36 0) then (x1 / 4) else (M.1 36 0)))) / 2) else ((M.1 36 1) + (M.1 36 2))))]) (st' := [.int 99]) (M' := M) (P := True) 2 rfl trivial ?_
    exact WX.iret rfl rfl (h2 c1)
def z_P_leastFor_33 (M : Mem) (x1 : Int32) : Int32 := (if ((x1 - (4 * (if (x1 / 4) < (M.1 36 0) then (x1 / 4) else (M.1 36 0)))) - (2 * (if ((x1 - (4 * (if (x1 / 4) < (M.1 36 0) then (x1 / 4) else (M.1 36 0)))) / 2) < ((M.1 36 1) + (M.1 36 2)) then ((x1 - (4 * (if (x1 / 4) < (M.1 36 0) then (x1 / 4) else (M.1 36 0)))) / 2) else ((M.1 36 1) + (M.1 36 2))))) ≤ (M.1 36 3) then (((if (x1 / 4) < (M.1 36 0) then (x1 / 4) else (M.1 36 0)) + (if ((x1 - (4 * (if (x1 / 4) < (M.1 36 0) then (x1 / 4) else (M.1 36 0)))) / 2) < ((M.1 36 1) + (M.1 36 2)) then ((x1 - (4 * (if (x1 / 4) < (M.1 36 0) then (x1 / 4) else (M.1 36 0)))) / 2) else ((M.1 36 1) + (M.1 36 2)))) + ((x1 - (4 * (if (x1 / 4) < (M.1 36 0) then (x1 / 4) else (M.1 36 0)))) - (2 * (if ((x1 - (4 * (if (x1 / 4) < (M.1 36 0) then (x1 / 4) else (M.1 36 0)))) / 2) < ((M.1 36 1) + (M.1 36 2)) then ((x1 - (4 * (if (x1 / 4) < (M.1 36 0) then (x1 / 4) else (M.1 36 0)))) / 2) else ((M.1 36 1) + (M.1 36 2)))))) else 99)
theorem wx_P_leastFor_33 {Q : Option Value → Mem → Prop} (M : Mem) (x1 : Int32)
    (h : Q (some (.int (z_P_leastFor_33 M x1))) M) :
    WX mi_P_leastFor 2 Q 0 [some (.ref 33), some (.int x1), none, none, none] [] M := by
  refine sg_P_leastFor_33_0 M x1
    (fun c1 => by
      unfold z_P_leastFor_33 at h
      rw [if_pos c1] at h
      exact h)
    (fun c1 => by
      unfold z_P_leastFor_33 at h
      rw [if_neg c1] at h
      exact h)
theorem sg_P_settle_33_0 {Q : Option Value → Mem → Prop} (M : Mem) (x1 : Int32)
    (h1 : WX mi_P_settle 1 Q 7 [some (.ref 33), some (.int x1), some (.int 0)] [] (wr M 33 5 x1)) :
    WX mi_P_settle 1 Q 0 [some (.ref 33), some (.int x1), none] [] M := by
  refine WX.run (pc' := 7) (L' := [some (.ref 33), some (.int x1), some (.int 0)]) (st' := []) (M' := (wr M 33 5 x1)) (P := True) 5 rfl trivial ?_
  exact h1
theorem sg_P_settle_33_7 {Q : Option Value → Mem → Prop} (M : Mem) (x1 x2 : Int32)
    (h1 : 16 ≤ x2 → Q none M)
    (b2 : ¬ 16 ≤ x2 → vp_in x2 16)
    (h3 : ¬ 16 ≤ x2 → WX mi_P_settle 1 Q 7 [some (.ref 33), some (.int x1), some (.int (x2 + 1))] [] (wr M 34 x2.toNatClampNeg (M.1 35 x2.toNatClampNeg))) :
    WX mi_P_settle 1 Q 7 [some (.ref 33), some (.int x1), some (.int x2)] [] M := by
  refine WX.run (pc' := 10) (L' := [some (.ref 33), some (.int x1), some (.int x2)]) (st' := [.int 16, .int x2]) (M' := M) (P := True) 2 rfl trivial ?_
  refine WX.icmp_ge (off := 21) (tgt := 31) rfl rfl (fun c1 => ?_) (fun c1 => ?_)
  · exact WX.vret rfl rfl (h1 c1)
  · refine WX.run (pc' := 7) (L' := [some (.ref 33), some (.int x1), some (.int (x2 + 1))]) (st' := []) (M' := (wr M 34 x2.toNatClampNeg (M.1 35 x2.toNatClampNeg))) (P := ((True ∧ vp_in x2 16) ∧ vp_in x2 16)) 10 rfl ⟨⟨trivial, (b2 c1)⟩, (b2 c1)⟩ ?_
    exact (h3 c1)
theorem sg_P_layRest_33_0 {d : Nat} {Q : Option Value → Mem → Prop} (M : Mem) (x1 x2 x3 x4 : Int32)
    (h1 : 16 < x1 → Q none M)
    (h2 : ¬ 16 < x1 → (x1 + (z_P_leastFor_33 M (z_I_bitCount ((M.1 33 4) &&& (x2 ^^^ (-1)))))) < (M.1 33 5) → ¬ ((M.1 33 4) &&& (x2 ^^^ (-1))) = 0 → WX mi_P_layRest (d + 3) Q 62 [some (.ref 33), some (.int x1), some (.int x2), some (.int x3), some (.int x4), some (.int ((M.1 33 4) &&& (x2 ^^^ (-1)))), some (.int (z_I_bitCount ((((M.1 33 4) &&& (x2 ^^^ (-1))) &&& (-((M.1 33 4) &&& (x2 ^^^ (-1))))) - 1))), some (.int 0), none, none, none] [] M)
    (h3 : ¬ 16 < x1 → (x1 + (z_P_leastFor_33 M (z_I_bitCount ((M.1 33 4) &&& (x2 ^^^ (-1)))))) < (M.1 33 5) → ((M.1 33 4) &&& (x2 ^^^ (-1))) = 0 → WX mi_P_settle 1 (fun rv M' => WX mi_P_layRest (d + 3) Q 45 [some (.ref 33), some (.int x1), some (.int x2), some (.int x3), some (.int x4), some (.int ((M.1 33 4) &&& (x2 ^^^ (-1)))), none, none, none, none, none] (rv.toList ++ []) M') 0 [some (.ref 33), some (.int x1), none] [] M)
    (h4 : ¬ 16 < x1 → ¬ (x1 + (z_P_leastFor_33 M (z_I_bitCount ((M.1 33 4) &&& (x2 ^^^ (-1)))))) < (M.1 33 5) → Q none M) :
    WX mi_P_layRest (d + 3) Q 0 [some (.ref 33), some (.int x1), some (.int x2), some (.int x3), some (.int x4), none, none, none, none, none, none] [] M := by
  refine WX.run (pc' := 13) (L' := [some (.ref 33), some (.int x1), some (.int x2), some (.int x3), some (.int x4), some (.int ((M.1 33 4) &&& (x2 ^^^ (-1)))), none, none, none, none, none]) (st' := [.int 16, .int x1]) (M' := M) (P := True) 9 rfl trivial ?_
  refine WX.icmp_gt (off := 21) (tgt := 34) rfl rfl (fun c1 => ?_) (fun c1 => ?_)
  · exact WX.vret rfl rfl (h1 c1)
  · refine WX.run (pc' := 20) (L' := [some (.ref 33), some (.int x1), some (.int x2), some (.int x3), some (.int x4), some (.int ((M.1 33 4) &&& (x2 ^^^ (-1)))), none, none, none, none, none]) (st' := [.int ((M.1 33 4) &&& (x2 ^^^ (-1))), .ref 33, .int x1]) (M' := M) (P := True) 3 rfl trivial ?_
    refine WX.callS (ca := mi_I_bitCount) (n := 1) (d' := 1) (st := [.ref 33, .int x1]) (As := [.int ((M.1 33 4) &&& (x2 ^^^ (-1)))]) rfl lk_2_62 ck_I_bitCount cs_I_bitCount rfl (by omega) rfl (Nat.le_of_ble_eq_true rfl) (by intro w hw; simp only [List.mem_cons, List.not_mem_nil, or_false] at hw; rcases hw with rfl <;> rfl) (Nat.le_of_ble_eq_true rfl) ?_
    refine wx_I_bitCount M ((M.1 33 4) &&& (x2 ^^^ (-1))) ?_
    show WX mi_P_layRest (d + 3) Q 23 [some (.ref 33), some (.int x1), some (.int x2), some (.int x3), some (.int x4), some (.int ((M.1 33 4) &&& (x2 ^^^ (-1)))), none, none, none, none, none] [.int (z_I_bitCount ((M.1 33 4) &&& (x2 ^^^ (-1)))), .ref 33, .int x1] M
    refine WX.callV (ca := mi_P_leastFor) (n := 1) (d' := 2) (st := [.int x1]) (As := [.int (z_I_bitCount ((M.1 33 4) &&& (x2 ^^^ (-1))))]) (q := 33) rfl lk_2_68 ck_P_leastFor cv_P_leastFor rfl (by omega) rfl (Nat.le_of_ble_eq_true rfl) ⟨by decide, rfl, by decide⟩ (by intro w hw; simp only [List.mem_cons, List.not_mem_nil, or_false] at hw; rcases hw with rfl <;> rfl) (Nat.le_of_ble_eq_true rfl) ?_
    refine wx_P_leastFor_33 M (z_I_bitCount ((M.1 33 4) &&& (x2 ^^^ (-1)))) ?_
    show WX mi_P_layRest (d + 3) Q 26 [some (.ref 33), some (.int x1), some (.int x2), some (.int x3), some (.int x4), some (.int ((M.1 33 4) &&& (x2 ^^^ (-1)))), none, none, none, none, none] [.int (z_P_leastFor_33 M (z_I_bitCount ((M.1 33 4) &&& (x2 ^^^ (-1))))), .int x1] M
    refine WX.run (pc' := 31) (L' := [some (.ref 33), some (.int x1), some (.int x2), some (.int x3), some (.int x4), some (.int ((M.1 33 4) &&& (x2 ^^^ (-1)))), none, none, none, none, none]) (st' := [.int (M.1 33 5), .int (x1 + (z_P_leastFor_33 M (z_I_bitCount ((M.1 33 4) &&& (x2 ^^^ (-1))))))]) (M' := M) (P := True) 3 rfl trivial ?_
    refine WX.icmp_lt (off := 4) (tgt := 35) rfl rfl (fun c2 => ?_) (fun c2 => ?_)
    · refine WX.run (pc' := 37) (L' := [some (.ref 33), some (.int x1), some (.int x2), some (.int x3), some (.int x4), some (.int ((M.1 33 4) &&& (x2 ^^^ (-1)))), none, none, none, none, none]) (st' := [.int ((M.1 33 4) &&& (x2 ^^^ (-1)))]) (M' := M) (P := True) 1 rfl trivial ?_
      refine WX.if_ne (off := 9) (tgt := 46) rfl rfl (fun c3 => ?_) (fun c3 => ?_)
      · refine WX.run (pc' := 54) (L' := [some (.ref 33), some (.int x1), some (.int x2), some (.int x3), some (.int x4), some (.int ((M.1 33 4) &&& (x2 ^^^ (-1)))), none, none, none, none, none]) (st' := [.int ((((M.1 33 4) &&& (x2 ^^^ (-1))) &&& (-((M.1 33 4) &&& (x2 ^^^ (-1))))) - 1)]) (M' := M) (P := True) 6 rfl trivial ?_
        refine WX.callS (ca := mi_I_bitCount) (n := 1) (d' := 1) (st := []) (As := [.int ((((M.1 33 4) &&& (x2 ^^^ (-1))) &&& (-((M.1 33 4) &&& (x2 ^^^ (-1))))) - 1)]) rfl lk_2_62 ck_I_bitCount cs_I_bitCount rfl (by omega) rfl (Nat.le_of_ble_eq_true rfl) (by intro w hw; simp only [List.mem_cons, List.not_mem_nil, or_false] at hw; rcases hw with rfl <;> rfl) (Nat.le_of_ble_eq_true rfl) ?_
        refine wx_I_bitCount M ((((M.1 33 4) &&& (x2 ^^^ (-1))) &&& (-((M.1 33 4) &&& (x2 ^^^ (-1))))) - 1) ?_
        show WX mi_P_layRest (d + 3) Q 57 [some (.ref 33), some (.int x1), some (.int x2), some (.int x3), some (.int x4), some (.int ((M.1 33 4) &&& (x2 ^^^ (-1)))), none, none, none, none, none] [.int (z_I_bitCount ((((M.1 33 4) &&& (x2 ^^^ (-1))) &&& (-((M.1 33 4) &&& (x2 ^^^ (-1))))) - 1))] M
        refine WX.run (pc' := 62) (L' := [some (.ref 33), some (.int x1), some (.int x2), some (.int x3), some (.int x4), some (.int ((M.1 33 4) &&& (x2 ^^^ (-1)))), some (.int (z_I_bitCount ((((M.1 33 4) &&& (x2 ^^^ (-1))) &&& (-((M.1 33 4) &&& (x2 ^^^ (-1))))) - 1))), some (.int 0), none, none, none]) (st' := []) (M' := M) (P := True) 3 rfl trivial ?_
        exact (h2 c1 c2 c3)
      · refine WX.run (pc' := 42) (L' := [some (.ref 33), some (.int x1), some (.int x2), some (.int x3), some (.int x4), some (.int ((M.1 33 4) &&& (x2 ^^^ (-1)))), none, none, none, none, none]) (st' := [.int x1, .ref 33]) (M' := M) (P := True) 2 rfl trivial ?_
        refine WX.callV (ca := mi_P_settle) (n := 1) (d' := 1) (st := []) (As := [.int x1]) (q := 33) rfl lk_2_71 ck_P_settle cv_P_settle rfl (by omega) rfl (Nat.le_of_ble_eq_true rfl) ⟨by decide, rfl, by decide⟩ (by intro w hw; simp only [List.mem_cons, List.not_mem_nil, or_false] at hw; rcases hw with rfl <;> rfl) (Nat.le_of_ble_eq_true rfl) ?_
        exact (h3 c1 c2 c3)
    · exact WX.vret rfl rfl (h4 c1 c2)
theorem sg_P_layRest_33_62 {d : Nat} {Q : Option Value → Mem → Prop} (M : Mem) (x1 x2 x3 x4 x5 x6 x7 : Int32)
    (h1 : 4 ≤ x7 → Q none M)
    (b2 : ¬ 4 ≤ x7 → vp_in x7 4)
    (h3 : ¬ 4 ≤ x7 → (M.1 36 x7.toNatClampNeg) ≤ 0 → WX mi_P_layRest (d + 3) Q 62 [some (.ref 33), some (.int x1), some (.int x2), some (.int x3), some (.int x4), some (.int x5), some (.int x6), some (.int (x7 + 1)), none, none, none] [] M)
    (b4 : ¬ 4 ≤ x7 → ¬ (M.1 36 x7.toNatClampNeg) ≤ 0 → ¬ (z_C_isSize x7) = 0 → ¬ (z_C_isNumber x6) = 0 → vp_in x7 4)
    (b5 : ¬ 4 ≤ x7 → ¬ (M.1 36 x7.toNatClampNeg) ≤ 0 → ¬ (z_C_isSize x7) = 0 → ¬ (z_C_isNumber x6) = 0 → ¬ 4 < ((rem x6 4) + (stV 1 x7.toNatClampNeg)) → ¬ x7 < 0 → ¬ 4 ≤ x7 → vp_in x7 4)
    (h6 : ¬ 4 ≤ x7 → ¬ (M.1 36 x7.toNatClampNeg) ≤ 0 → (z_C_fits x7 x6 x5) = 0 → WX mi_P_layRest (d + 3) Q 62 [some (.ref 33), some (.int x1), some (.int x2), some (.int x3), some (.int x4), some (.int x5), some (.int x6), some (.int (x7 + 1)), none, none, none] [] M)
    (b7 : ¬ 4 ≤ x7 → ¬ (M.1 36 x7.toNatClampNeg) ≤ 0 → ¬ (z_C_fits x7 x6 x5) = 0 → ¬ x7 < 0 → ¬ 4 ≤ x7 → vp_in x7 4)
    (h8 : ¬ 4 ≤ x7 → ¬ (M.1 36 x7.toNatClampNeg) ≤ 0 → ¬ (z_C_fits x7 x6 x5) = 0 → ¬ (z_C_crossPoints (x2 ||| (z_C_bitsAt_100 x7 x6)) (x3 ||| (z_C_bitsAt_102 x7 x6)) (x4 ||| (z_C_bitsAt_103 x7 x6))) = 0 → WX mi_P_layRest (d + 3) Q 62 [some (.ref 33), some (.int x1), some (.int x2), some (.int x3), some (.int x4), some (.int x5), some (.int x6), some (.int (x7 + 1)), none, none, none] [] M)
    (b9 : ¬ 4 ≤ x7 → ¬ (M.1 36 x7.toNatClampNeg) ≤ 0 → ¬ (z_C_fits x7 x6 x5) = 0 → (z_C_crossPoints (x2 ||| (z_C_bitsAt_100 x7 x6)) (x3 ||| (z_C_bitsAt_102 x7 x6)) (x4 ||| (z_C_bitsAt_103 x7 x6))) = 0 → vp_in x7 4)
    (b10 : ¬ 4 ≤ x7 → ¬ (M.1 36 x7.toNatClampNeg) ≤ 0 → ¬ (z_C_fits x7 x6 x5) = 0 → (z_C_crossPoints (x2 ||| (z_C_bitsAt_100 x7 x6)) (x3 ||| (z_C_bitsAt_102 x7 x6)) (x4 ||| (z_C_bitsAt_103 x7 x6))) = 0 → vp_in x6 16)
    (h11 : ¬ 4 ≤ x7 → ¬ (M.1 36 x7.toNatClampNeg) ≤ 0 → ¬ (z_C_fits x7 x6 x5) = 0 → (z_C_crossPoints (x2 ||| (z_C_bitsAt_100 x7 x6)) (x3 ||| (z_C_bitsAt_102 x7 x6)) (x4 ||| (z_C_bitsAt_103 x7 x6))) = 0 → WX mi_P_layRest (d + 2) (fun rv M' => WX mi_P_layRest (d + 3) Q 178 [some (.ref 33), some (.int x1), some (.int x2), some (.int x3), some (.int x4), some (.int x5), some (.int x6), some (.int x7), some (.int (x2 ||| (z_C_bitsAt_100 x7 x6))), some (.int (x3 ||| (z_C_bitsAt_102 x7 x6))), some (.int (x4 ||| (z_C_bitsAt_103 x7 x6)))] (rv.toList ++ []) M') 0 [some (.ref 33), some (.int (x1 + 1)), some (.int (x2 ||| (z_C_bitsAt_100 x7 x6))), some (.int (x3 ||| (z_C_bitsAt_102 x7 x6))), some (.int (x4 ||| (z_C_bitsAt_103 x7 x6))), none, none, none, none, none, none] [] (wr (wr M 36 x7.toNatClampNeg ((M.1 36 x7.toNatClampNeg) - 1)) 35 x6.toNatClampNeg x7)) :
    WX mi_P_layRest (d + 3) Q 62 [some (.ref 33), some (.int x1), some (.int x2), some (.int x3), some (.int x4), some (.int x5), some (.int x6), some (.int x7), none, none, none] [] M := by
  refine WX.run (pc' := 65) (L' := [some (.ref 33), some (.int x1), some (.int x2), some (.int x3), some (.int x4), some (.int x5), some (.int x6), some (.int x7), none, none, none]) (st' := [.int 4, .int x7]) (M' := M) (P := True) 2 rfl trivial ?_
  refine WX.icmp_ge (off := 139) (tgt := 204) rfl rfl (fun c1 => ?_) (fun c1 => ?_)
  · exact WX.vret rfl rfl (h1 c1)
  · refine WX.run (pc' := 75) (L' := [some (.ref 33), some (.int x1), some (.int x2), some (.int x3), some (.int x4), some (.int x5), some (.int x6), some (.int x7), none, none, none]) (st' := [.int (M.1 36 x7.toNatClampNeg)]) (M' := M) (P := (True ∧ vp_in x7 4)) 4 rfl ⟨trivial, (b2 c1)⟩ ?_
    refine WX.if_le (off := 123) (tgt := 198) rfl rfl (fun c2 => ?_) (fun c2 => ?_)
    · refine WX.run (pc' := 62) (L' := [some (.ref 33), some (.int x1), some (.int x2), some (.int x3), some (.int x4), some (.int x5), some (.int x6), some (.int (x7 + 1)), none, none, none]) (st' := []) (M' := M) (P := True) 2 rfl trivial ?_
      exact (h3 c1 c2)
    · refine WX.run (pc' := 84) (L' := [some (.ref 33), some (.int x1), some (.int x2), some (.int x3), some (.int x4), some (.int x5), some (.int x6), some (.int x7), none, none, none]) (st' := [.int x5, .int x6, .int x7]) (M' := M) (P := True) 3 rfl trivial ?_
      refine WX.callSN (ca := mi_C_fits) (n := 3) (d' := 2) (st := []) (As := [.int x7, .int x6, .int x5]) rfl lk_2_75 ck_C_fits cs_C_fits rfl (by omega) rfl (Nat.le_of_ble_eq_true rfl) (by intro w hw; simp only [List.mem_cons, List.not_mem_nil, or_false] at hw; rcases hw with rfl | rfl | rfl <;> rfl) (Nat.le_of_ble_eq_true rfl) ?_
      refine wx_C_fits M x7 x6 x5 (b4 c1 c2) (b5 c1 c2) ?_
      show WX mi_P_layRest (d + 3) Q 87 [some (.ref 33), some (.int x1), some (.int x2), some (.int x3), some (.int x4), some (.int x5), some (.int x6), some (.int x7), none, none, none] [.int (z_C_fits x7 x6 x5)] M
      refine WX.if_eq (off := 111) (tgt := 198) rfl rfl (fun c3 => ?_) (fun c3 => ?_)
      · refine WX.run (pc' := 62) (L' := [some (.ref 33), some (.int x1), some (.int x2), some (.int x3), some (.int x4), some (.int x5), some (.int x6), some (.int (x7 + 1)), none, none, none]) (st' := []) (M' := M) (P := True) 2 rfl trivial ?_
        exact (h6 c1 c2 c3)
      · refine WX.run (pc' := 98) (L' := [some (.ref 33), some (.int x1), some (.int x2), some (.int x3), some (.int x4), some (.int x5), some (.int x6), some (.int x7), none, none, none]) (st' := [.int x6, .int x7, .ref 100, .int x2]) (M' := M) (P := True) 4 rfl trivial ?_
        refine WX.callSN (ca := mi_C_bitsAt) (n := 3) (d' := 1) (st := [.int x2]) (As := [.ref 100, .int x7, .int x6]) rfl lk_2_82 ck_C_bitsAt cs_C_bitsAt rfl (by omega) rfl (Nat.le_of_ble_eq_true rfl) (by intro w hw; simp only [List.mem_cons, List.not_mem_nil, or_false] at hw; rcases hw with rfl | rfl | rfl <;> rfl) (Nat.le_of_ble_eq_true rfl) ?_
        refine wx_C_bitsAt_100 M x7 x6 (b7 c1 c2 c3) ?_
        show WX mi_P_layRest (d + 3) Q 101 [some (.ref 33), some (.int x1), some (.int x2), some (.int x3), some (.int x4), some (.int x5), some (.int x6), some (.int x7), none, none, none] [.int (z_C_bitsAt_100 x7 x6), .int x2] M
        refine WX.run (pc' := 112) (L' := [some (.ref 33), some (.int x1), some (.int x2), some (.int x3), some (.int x4), some (.int x5), some (.int x6), some (.int x7), some (.int (x2 ||| (z_C_bitsAt_100 x7 x6))), none, none]) (st' := [.int x6, .int x7, .ref 102, .int x3]) (M' := M) (P := True) 6 rfl trivial ?_
        refine WX.callSN (ca := mi_C_bitsAt) (n := 3) (d' := 1) (st := [.int x3]) (As := [.ref 102, .int x7, .int x6]) rfl lk_2_82 ck_C_bitsAt cs_C_bitsAt rfl (by omega) rfl (Nat.le_of_ble_eq_true rfl) (by intro w hw; simp only [List.mem_cons, List.not_mem_nil, or_false] at hw; rcases hw with rfl | rfl | rfl <;> rfl) (Nat.le_of_ble_eq_true rfl) ?_
        refine wx_C_bitsAt_102 M x7 x6 (b7 c1 c2 c3) ?_
        show WX mi_P_layRest (d + 3) Q 115 [some (.ref 33), some (.int x1), some (.int x2), some (.int x3), some (.int x4), some (.int x5), some (.int x6), some (.int x7), some (.int (x2 ||| (z_C_bitsAt_100 x7 x6))), none, none] [.int (z_C_bitsAt_102 x7 x6), .int x3] M
        refine WX.run (pc' := 127) (L' := [some (.ref 33), some (.int x1), some (.int x2), some (.int x3), some (.int x4), some (.int x5), some (.int x6), some (.int x7), some (.int (x2 ||| (z_C_bitsAt_100 x7 x6))), some (.int (x3 ||| (z_C_bitsAt_102 x7 x6))), none]) (st' := [.int x6, .int x7, .ref 103, .int x4]) (M' := M) (P := True) 6 rfl trivial ?_
        refine WX.callSN (ca := mi_C_bitsAt) (n := 3) (d' := 1) (st := [.int x4]) (As := [.ref 103, .int x7, .int x6]) rfl lk_2_82 ck_C_bitsAt cs_C_bitsAt rfl (by omega) rfl (Nat.le_of_ble_eq_true rfl) (by intro w hw; simp only [List.mem_cons, List.not_mem_nil, or_false] at hw; rcases hw with rfl | rfl | rfl <;> rfl) (Nat.le_of_ble_eq_true rfl) ?_
        refine wx_C_bitsAt_103 M x7 x6 (b7 c1 c2 c3) ?_
        show WX mi_P_layRest (d + 3) Q 130 [some (.ref 33), some (.int x1), some (.int x2), some (.int x3), some (.int x4), some (.int x5), some (.int x6), some (.int x7), some (.int (x2 ||| (z_C_bitsAt_100 x7 x6))), some (.int (x3 ||| (z_C_bitsAt_102 x7 x6))), none] [.int (z_C_bitsAt_103 x7 x6), .int x4] M
        refine WX.run (pc' := 139) (L' := [some (.ref 33), some (.int x1), some (.int x2), some (.int x3), some (.int x4), some (.int x5), some (.int x6), some (.int x7), some (.int (x2 ||| (z_C_bitsAt_100 x7 x6))), some (.int (x3 ||| (z_C_bitsAt_102 x7 x6))), some (.int (x4 ||| (z_C_bitsAt_103 x7 x6)))]) (st' := [.int (x4 ||| (z_C_bitsAt_103 x7 x6)), .int (x3 ||| (z_C_bitsAt_102 x7 x6)), .int (x2 ||| (z_C_bitsAt_100 x7 x6))]) (M' := M) (P := True) 5 rfl trivial ?_
        refine WX.callSN (ca := mi_C_crossPoints) (n := 3) (d' := 1) (st := []) (As := [.int (x2 ||| (z_C_bitsAt_100 x7 x6)), .int (x3 ||| (z_C_bitsAt_102 x7 x6)), .int (x4 ||| (z_C_bitsAt_103 x7 x6))]) rfl lk_2_54 ck_C_crossPoints cs_C_crossPoints rfl (by omega) rfl (Nat.le_of_ble_eq_true rfl) (by intro w hw; simp only [List.mem_cons, List.not_mem_nil, or_false] at hw; rcases hw with rfl | rfl | rfl <;> rfl) (Nat.le_of_ble_eq_true rfl) ?_
        refine wx_C_crossPoints M (x2 ||| (z_C_bitsAt_100 x7 x6)) (x3 ||| (z_C_bitsAt_102 x7 x6)) (x4 ||| (z_C_bitsAt_103 x7 x6)) ?_
        show WX mi_P_layRest (d + 3) Q 142 [some (.ref 33), some (.int x1), some (.int x2), some (.int x3), some (.int x4), some (.int x5), some (.int x6), some (.int x7), some (.int (x2 ||| (z_C_bitsAt_100 x7 x6))), some (.int (x3 ||| (z_C_bitsAt_102 x7 x6))), some (.int (x4 ||| (z_C_bitsAt_103 x7 x6)))] [.int (z_C_crossPoints (x2 ||| (z_C_bitsAt_100 x7 x6)) (x3 ||| (z_C_bitsAt_102 x7 x6)) (x4 ||| (z_C_bitsAt_103 x7 x6)))] M
        refine WX.if_ne (off := 56) (tgt := 198) rfl rfl (fun c4 => ?_) (fun c4 => ?_)
        · refine WX.run (pc' := 62) (L' := [some (.ref 33), some (.int x1), some (.int x2), some (.int x3), some (.int x4), some (.int x5), some (.int x6), some (.int (x7 + 1)), some (.int (x2 ||| (z_C_bitsAt_100 x7 x6))), some (.int (x3 ||| (z_C_bitsAt_102 x7 x6))), some (.int (x4 ||| (z_C_bitsAt_103 x7 x6)))]) (st' := []) (M' := M) (P := True) 2 rfl trivial ?_
          refine WX.forget2 (L' := [some (.ref 33), some (.int x1), some (.int x2), some (.int x3), some (.int x4), some (.int x5), some (.int x6), some (.int (x7 + 1)), none, none, none]) ?_ ⟨Or.inr rfl, Or.inr rfl, Or.inr rfl, Or.inr rfl, Or.inr rfl, Or.inr rfl, Or.inr rfl, Or.inr rfl, Or.inl rfl, Or.inl rfl, Or.inl rfl, trivial⟩
          exact (h8 c1 c2 c3 c4)
        · refine WX.run (pc' := 175) (L' := [some (.ref 33), some (.int x1), some (.int x2), some (.int x3), some (.int x4), some (.int x5), some (.int x6), some (.int x7), some (.int (x2 ||| (z_C_bitsAt_100 x7 x6))), some (.int (x3 ||| (z_C_bitsAt_102 x7 x6))), some (.int (x4 ||| (z_C_bitsAt_103 x7 x6)))]) (st' := [.int (x4 ||| (z_C_bitsAt_103 x7 x6)), .int (x3 ||| (z_C_bitsAt_102 x7 x6)), .int (x2 ||| (z_C_bitsAt_100 x7 x6)), .int (x1 + 1), .ref 33]) (M' := (wr (wr M 36 x7.toNatClampNeg ((M.1 36 x7.toNatClampNeg) - 1)) 35 x6.toNatClampNeg x7)) (P := (((True ∧ vp_in x7 4) ∧ vp_in x7 4) ∧ vp_in x6 16)) 20 rfl ⟨⟨⟨trivial, (b9 c1 c2 c3 c4)⟩, (b9 c1 c2 c3 c4)⟩, (b10 c1 c2 c3 c4)⟩ ?_
          refine WX.callS (ca := mi_P_layRest) (n := 5) (d' := (d + 2)) (st := []) (As := [.ref 33, .int (x1 + 1), .int (x2 ||| (z_C_bitsAt_100 x7 x6)), .int (x3 ||| (z_C_bitsAt_102 x7 x6)), .int (x4 ||| (z_C_bitsAt_103 x7 x6))]) rfl lk_2_58 ck_P_layRest cs_P_layRest rfl (by omega) rfl (Nat.le_of_ble_eq_true rfl) (by intro w hw; simp only [List.mem_cons, List.not_mem_nil, or_false] at hw; rcases hw with rfl | rfl | rfl | rfl | rfl <;> rfl) (Nat.le_of_ble_eq_true rfl) ?_
          exact (h11 c1 c2 c3 c4)
theorem sg_P_layRest_33_45 {d : Nat} {Q : Option Value → Mem → Prop} (M : Mem) (x1 x2 x3 x4 x5 : Int32)
    (h1 : Q none M) :
    WX mi_P_layRest (d + 3) Q 45 [some (.ref 33), some (.int x1), some (.int x2), some (.int x3), some (.int x4), some (.int x5), none, none, none, none, none] [] M := by
  exact WX.vret rfl rfl h1
theorem sg_P_layRest_33_178 {d : Nat} {Q : Option Value → Mem → Prop} (M : Mem) (x1 x2 x3 x4 x5 x6 x7 x8 x9 x10 : Int32)
    (b1 : vp_in x6 16)
    (b2 : vp_in x7 4)
    (h3 : WX mi_P_layRest (d + 3) Q 62 [some (.ref 33), some (.int x1), some (.int x2), some (.int x3), some (.int x4), some (.int x5), some (.int x6), some (.int (x7 + 1)), none, none, none] [] (wr (wr M 35 x6.toNatClampNeg (-9)) 36 x7.toNatClampNeg ((M.1 36 x7.toNatClampNeg) + 1))) :
    WX mi_P_layRest (d + 3) Q 178 [some (.ref 33), some (.int x1), some (.int x2), some (.int x3), some (.int x4), some (.int x5), some (.int x6), some (.int x7), some (.int x8), some (.int x9), some (.int x10)] [] M := by
  refine WX.run (pc' := 62) (L' := [some (.ref 33), some (.int x1), some (.int x2), some (.int x3), some (.int x4), some (.int x5), some (.int x6), some (.int (x7 + 1)), some (.int x8), some (.int x9), some (.int x10)]) (st' := []) (M' := (wr (wr M 35 x6.toNatClampNeg (-9)) 36 x7.toNatClampNeg ((M.1 36 x7.toNatClampNeg) + 1))) (P := (((True ∧ vp_in x6 16) ∧ vp_in x7 4) ∧ vp_in x7 4)) 15 rfl ⟨⟨⟨trivial, b1⟩, b2⟩, b2⟩ ?_
  refine WX.forget2 (L' := [some (.ref 33), some (.int x1), some (.int x2), some (.int x3), some (.int x4), some (.int x5), some (.int x6), some (.int (x7 + 1)), none, none, none]) ?_ ⟨Or.inr rfl, Or.inr rfl, Or.inr rfl, Or.inr rfl, Or.inr rfl, Or.inr rfl, Or.inr rfl, Or.inr rfl, Or.inl rfl, Or.inl rfl, Or.inl rfl, trivial⟩
  exact h3
theorem sg_P_search_33_6_9_0 {Q : Option Value → Mem → Prop} (M : Mem)
    (h1 : WX mi_G_covered 3 (fun rv M' => WX mi_P_search 25 Q 4 [some (.ref 33), some (.ref 6), some (.ref 9), none, none, none, none] (rv.toList ++ []) M') 0 [some (.ref 9)] [] M) :
    WX mi_P_search 25 Q 0 [some (.ref 33), some (.ref 6), some (.ref 9), none, none, none, none] [] M := by
  refine WX.run (pc' := 1) (L' := [some (.ref 33), some (.ref 6), some (.ref 9), none, none, none, none]) (st' := [.ref 9]) (M' := M) (P := True) 1 rfl trivial ?_
  refine WX.callV (ca := mi_G_covered) (n := 0) (d' := 3) (st := []) (As := []) (q := 9) rfl lk_2_25 ck_G_covered cv_G_covered rfl (by decide) rfl (Nat.le_of_ble_eq_true rfl) ⟨by decide, rfl, by decide⟩ (fun w hw => absurd hw List.not_mem_nil) (Nat.le_of_ble_eq_true rfl) ?_
  exact h1
theorem sg_P_search_33_6_9_4 {Q : Option Value → Mem → Prop} (M : Mem) (r : Int32)
    (h1 : WX mi_G_joined 2 (fun rv M' => WX mi_P_search 25 Q 12 [some (.ref 33), some (.ref 6), some (.ref 9), some (.int r), none, none, none] (rv.toList ++ []) M') 0 [some (.ref 9), some (.ref 102), none, none] [] M) :
    WX mi_P_search 25 Q 4 [some (.ref 33), some (.ref 6), some (.ref 9), none, none, none, none] [.int r] M := by
  refine WX.run (pc' := 9) (L' := [some (.ref 33), some (.ref 6), some (.ref 9), some (.int r), none, none, none]) (st' := [.ref 102, .ref 9]) (M' := M) (P := True) 3 rfl trivial ?_
  refine WX.callV (ca := mi_G_joined) (n := 1) (d' := 2) (st := []) (As := [.ref 102]) (q := 9) rfl lk_2_34 ck_G_joined cv_G_joined rfl (by decide) rfl (Nat.le_of_ble_eq_true rfl) ⟨by decide, rfl, by decide⟩ (by intro w hw; simp only [List.mem_cons, List.not_mem_nil, or_false] at hw; rcases hw with rfl <;> rfl) (Nat.le_of_ble_eq_true rfl) ?_
  exact h1
theorem sg_P_search_33_6_9_12 {Q : Option Value → Mem → Prop} (M : Mem) (x3 r : Int32)
    (h1 : WX mi_G_joined 2 (fun rv M' => WX mi_P_search 25 Q 21 [some (.ref 33), some (.ref 6), some (.ref 9), some (.int x3), some (.int r), none, none] (rv.toList ++ []) M') 0 [some (.ref 9), some (.ref 103), none, none] [] M) :
    WX mi_P_search 25 Q 12 [some (.ref 33), some (.ref 6), some (.ref 9), some (.int x3), none, none, none] [.int r] M := by
  refine WX.run (pc' := 18) (L' := [some (.ref 33), some (.ref 6), some (.ref 9), some (.int x3), some (.int r), none, none]) (st' := [.ref 103, .ref 9]) (M' := M) (P := True) 3 rfl trivial ?_
  refine WX.callV (ca := mi_G_joined) (n := 1) (d' := 2) (st := []) (As := [.ref 103]) (q := 9) rfl lk_2_34 ck_G_joined cv_G_joined rfl (by decide) rfl (Nat.le_of_ble_eq_true rfl) ⟨by decide, rfl, by decide⟩ (by intro w hw; simp only [List.mem_cons, List.not_mem_nil, or_false] at hw; rcases hw with rfl <;> rfl) (Nat.le_of_ble_eq_true rfl) ?_
  exact h1
theorem sg_P_search_33_6_9_21 {Q : Option Value → Mem → Prop} (M : Mem) (x3 x4 r : Int32)
    (h1 : WX mi_L_layable 2 (fun rv M' => WX mi_P_search 25 Q 28 [some (.ref 33), some (.ref 6), some (.ref 9), some (.int x3), some (.int x4), some (.int r), none] (rv.toList ++ [.ref 33]) M') 0 [some (.ref 6)] [] M) :
    WX mi_P_search 25 Q 21 [some (.ref 33), some (.ref 6), some (.ref 9), some (.int x3), some (.int x4), none, none] [.int r] M := by
  refine WX.run (pc' := 25) (L' := [some (.ref 33), some (.ref 6), some (.ref 9), some (.int x3), some (.int x4), some (.int r), none]) (st' := [.ref 6, .ref 33]) (M' := M) (P := True) 3 rfl trivial ?_
  refine WX.callV (ca := mi_L_layable) (n := 0) (d' := 2) (st := [.ref 33]) (As := []) (q := 6) rfl lk_2_41 ck_L_layable cv_L_layable rfl (by decide) rfl (Nat.le_of_ble_eq_true rfl) ⟨by decide, rfl, by decide⟩ (fun w hw => absurd hw List.not_mem_nil) (Nat.le_of_ble_eq_true rfl) ?_
  exact h1
theorem sg_P_search_33_6_9_28 {Q : Option Value → Mem → Prop} (M : Mem) (x3 x4 x5 r : Int32)
    (h1 : WX mi_P_search 25 Q 40 [some (.ref 33), some (.ref 6), some (.ref 9), some (.int x3), some (.int x4), some (.int x5), some (.int 0)] [] (wr (wr M 33 4 r) 33 5 99)) :
    WX mi_P_search 25 Q 28 [some (.ref 33), some (.ref 6), some (.ref 9), some (.int x3), some (.int x4), some (.int x5), none] [.int r, .ref 33] M := by
  refine WX.run (pc' := 40) (L' := [some (.ref 33), some (.ref 6), some (.ref 9), some (.int x3), some (.int x4), some (.int x5), some (.int 0)]) (st' := []) (M' := (wr (wr M 33 4 r) 33 5 99)) (P := True) 6 rfl trivial ?_
  exact h1
theorem sg_P_search_33_6_9_40 {Q : Option Value → Mem → Prop} (M : Mem) (x3 x4 x5 x6 : Int32)
    (h1 : 4 ≤ x6 → WX mi_P_search 25 Q 69 [some (.ref 33), some (.ref 6), some (.ref 9), some (.int x3), some (.int x4), some (.int x5), some (.int 0)] [] M)
    (b2 : ¬ 4 ≤ x6 → vp_in x6 4)
    (h3 : ¬ 4 ≤ x6 → WX mi_P_search 25 Q 40 [some (.ref 33), some (.ref 6), some (.ref 9), some (.int x3), some (.int x4), some (.int x5), some (.int (x6 + 1))] [] (wr M 36 x6.toNatClampNeg (M.1 12 x6.toNatClampNeg))) :
    WX mi_P_search 25 Q 40 [some (.ref 33), some (.ref 6), some (.ref 9), some (.int x3), some (.int x4), some (.int x5), some (.int x6)] [] M := by
  refine WX.run (pc' := 43) (L' := [some (.ref 33), some (.ref 6), some (.ref 9), some (.int x3), some (.int x4), some (.int x5), some (.int x6)]) (st' := [.int 4, .int x6]) (M' := M) (P := True) 2 rfl trivial ?_
  refine WX.icmp_ge (off := 23) (tgt := 66) rfl rfl (fun c1 => ?_) (fun c1 => ?_)
  · refine WX.run (pc' := 69) (L' := [some (.ref 33), some (.ref 6), some (.ref 9), some (.int x3), some (.int x4), some (.int x5), some (.int 0)]) (st' := []) (M' := M) (P := True) 2 rfl trivial ?_
    exact (h1 c1)
  · refine WX.run (pc' := 40) (L' := [some (.ref 33), some (.ref 6), some (.ref 9), some (.int x3), some (.int x4), some (.int x5), some (.int (x6 + 1))]) (st' := []) (M' := (wr M 36 x6.toNatClampNeg (M.1 12 x6.toNatClampNeg))) (P := ((True ∧ vp_in x6 4) ∧ vp_in x6 4)) 10 rfl ⟨⟨trivial, (b2 c1)⟩, (b2 c1)⟩ ?_
    exact (h3 c1)
theorem sg_P_search_33_6_9_69 {Q : Option Value → Mem → Prop} (M : Mem) (x3 x4 x5 x6 : Int32)
    (h1 : 16 ≤ x6 → ¬ (z_C_crossPoints x3 x4 x5) = 0 → ¬ (M.1 33 5) = 99 → Q none (wr M 33 0 (M.1 33 5)))
    (h2 : 16 ≤ x6 → ¬ (z_C_crossPoints x3 x4 x5) = 0 → (M.1 33 5) = 99 → Q none (wr M 33 0 (-9)))
    (h3 : 16 ≤ x6 → (z_C_crossPoints x3 x4 x5) = 0 → WX mi_P_layRest 3 (fun rv M' => WX mi_P_search 25 Q 121 [some (.ref 33), some (.ref 6), some (.ref 9), some (.int x3), some (.int x4), some (.int x5), some (.int x6)] (rv.toList ++ []) M') 0 [some (.ref 33), some (.int 0), some (.int x3), some (.int x4), some (.int x5), none, none, none, none, none, none] [] M)
    (b4 : ¬ 16 ≤ x6 → vp_in x6 16)
    (h5 : ¬ 16 ≤ x6 → WX mi_P_search 25 Q 69 [some (.ref 33), some (.ref 6), some (.ref 9), some (.int x3), some (.int x4), some (.int x5), some (.int (x6 + 1))] [] (wr (wr M 34 x6.toNatClampNeg (-9)) 35 x6.toNatClampNeg (-9))) :
    WX mi_P_search 25 Q 69 [some (.ref 33), some (.ref 6), some (.ref 9), some (.int x3), some (.int x4), some (.int x5), some (.int x6)] [] M := by
  refine WX.run (pc' := 73) (L' := [some (.ref 33), some (.ref 6), some (.ref 9), some (.int x3), some (.int x4), some (.int x5), some (.int x6)]) (st' := [.int 16, .int x6]) (M' := M) (P := True) 2 rfl trivial ?_
  refine WX.icmp_ge (off := 27) (tgt := 100) rfl rfl (fun c1 => ?_) (fun c1 => ?_)
  · refine WX.run (pc' := 105) (L' := [some (.ref 33), some (.ref 6), some (.ref 9), some (.int x3), some (.int x4), some (.int x5), some (.int x6)]) (st' := [.int x5, .int x4, .int x3]) (M' := M) (P := True) 3 rfl trivial ?_
    refine WX.callSN (ca := mi_C_crossPoints) (n := 3) (d' := 1) (st := []) (As := [.int x3, .int x4, .int x5]) rfl lk_2_54 ck_C_crossPoints cs_C_crossPoints rfl (by decide) rfl (Nat.le_of_ble_eq_true rfl) (by intro w hw; simp only [List.mem_cons, List.not_mem_nil, or_false] at hw; rcases hw with rfl | rfl | rfl <;> rfl) (Nat.le_of_ble_eq_true rfl) ?_
    refine wx_C_crossPoints M x3 x4 x5 ?_
    show WX mi_P_search 25 Q 108 [some (.ref 33), some (.ref 6), some (.ref 9), some (.int x3), some (.int x4), some (.int x5), some (.int x6)] [.int (z_C_crossPoints x3 x4 x5)] M
    refine WX.if_ne (off := 13) (tgt := 121) rfl rfl (fun c2 => ?_) (fun c2 => ?_)
    · refine WX.run (pc' := 128) (L' := [some (.ref 33), some (.ref 6), some (.ref 9), some (.int x3), some (.int x4), some (.int x5), some (.int x6)]) (st' := [.int 99, .int (M.1 33 5), .ref 33]) (M' := M) (P := True) 4 rfl trivial ?_
      refine WX.icmp_ne (off := 8) (tgt := 136) rfl rfl (fun c3 => ?_) (fun c3 => ?_)
      · refine WX.run (pc' := 143) (L' := [some (.ref 33), some (.ref 6), some (.ref 9), some (.int x3), some (.int x4), some (.int x5), some (.int x6)]) (st' := []) (M' := (wr M 33 0 (M.1 33 5))) (P := True) 3 rfl trivial ?_
        exact WX.vret rfl rfl (h1 c1 c2 c3)
      · refine WX.run (pc' := 143) (L' := [some (.ref 33), some (.ref 6), some (.ref 9), some (.int x3), some (.int x4), some (.int x5), some (.int x6)]) (st' := []) (M' := (wr M 33 0 (-9))) (P := True) 3 rfl trivial ?_
        exact WX.vret rfl rfl (h2 c1 c2 c3)
    · refine WX.run (pc' := 118) (L' := [some (.ref 33), some (.ref 6), some (.ref 9), some (.int x3), some (.int x4), some (.int x5), some (.int x6)]) (st' := [.int x5, .int x4, .int x3, .int 0, .ref 33]) (M' := M) (P := True) 5 rfl trivial ?_
      refine WX.callS (ca := mi_P_layRest) (n := 5) (d' := 3) (st := []) (As := [.ref 33, .int 0, .int x3, .int x4, .int x5]) rfl lk_2_58 ck_P_layRest cs_P_layRest rfl (by decide) rfl (Nat.le_of_ble_eq_true rfl) (by intro w hw; simp only [List.mem_cons, List.not_mem_nil, or_false] at hw; rcases hw with rfl | rfl | rfl | rfl | rfl <;> rfl) (Nat.le_of_ble_eq_true rfl) ?_
      exact (h3 c1 c2)
  · refine WX.run (pc' := 69) (L' := [some (.ref 33), some (.ref 6), some (.ref 9), some (.int x3), some (.int x4), some (.int x5), some (.int (x6 + 1))]) (st' := []) (M' := (wr (wr M 34 x6.toNatClampNeg (-9)) 35 x6.toNatClampNeg (-9))) (P := ((True ∧ vp_in x6 16) ∧ vp_in x6 16)) 12 rfl ⟨⟨trivial, (b4 c1)⟩, (b4 c1)⟩ ?_
    exact (h5 c1)
theorem sg_P_search_33_6_9_121 {Q : Option Value → Mem → Prop} (M : Mem) (x3 x4 x5 x6 : Int32)
    (h1 : ¬ (M.1 33 5) = 99 → Q none (wr M 33 0 (M.1 33 5)))
    (h2 : (M.1 33 5) = 99 → Q none (wr M 33 0 (-9))) :
    WX mi_P_search 25 Q 121 [some (.ref 33), some (.ref 6), some (.ref 9), some (.int x3), some (.int x4), some (.int x5), some (.int x6)] [] M := by
  refine WX.run (pc' := 128) (L' := [some (.ref 33), some (.ref 6), some (.ref 9), some (.int x3), some (.int x4), some (.int x5), some (.int x6)]) (st' := [.int 99, .int (M.1 33 5), .ref 33]) (M' := M) (P := True) 4 rfl trivial ?_
  refine WX.icmp_ne (off := 8) (tgt := 136) rfl rfl (fun c1 => ?_) (fun c1 => ?_)
  · refine WX.run (pc' := 143) (L' := [some (.ref 33), some (.ref 6), some (.ref 9), some (.int x3), some (.int x4), some (.int x5), some (.int x6)]) (st' := []) (M' := (wr M 33 0 (M.1 33 5))) (P := True) 3 rfl trivial ?_
    exact WX.vret rfl rfl (h1 c1)
  · refine WX.run (pc' := 143) (L' := [some (.ref 33), some (.ref 6), some (.ref 9), some (.int x3), some (.int x4), some (.int x5), some (.int x6)]) (st' := []) (M' := (wr M 33 0 (-9))) (P := True) 3 rfl trivial ?_
    exact WX.vret rfl rfl (h2 c1)
theorem sg_C_freeCells_0_0 {Q : Option Value → Mem → Prop} (M : Mem)
    (h1 : WX mi_L_layable 2 (fun rv M' => WX mi_C_freeCells 4 Q 7 [some (.ref 0)] (rv.toList ++ []) M') 0 [some (.ref 6)] [] M) :
    WX mi_C_freeCells 4 Q 0 [some (.ref 0)] [] M := by
  refine WX.run (pc' := 4) (L' := [some (.ref 0)]) (st' := [.ref 6]) (M' := M) (P := True) 2 rfl trivial ?_
  refine WX.callV (ca := mi_L_layable) (n := 0) (d' := 2) (st := []) (As := []) (q := 6) rfl lk_6_296 ck_L_layable cv_L_layable rfl (by decide) rfl (Nat.le_of_ble_eq_true rfl) ⟨by decide, rfl, by decide⟩ (fun w hw => absurd hw List.not_mem_nil) (Nat.le_of_ble_eq_true rfl) ?_
  exact h1
theorem sg_C_freeCells_0_7 {Q : Option Value → Mem → Prop} (M : Mem) (r : Int32)
    (h1 : WX mi_G_covered 3 (fun rv M' => WX mi_C_freeCells 4 Q 14 [some (.ref 0)] (rv.toList ++ [.int r]) M') 0 [some (.ref 9)] [] M) :
    WX mi_C_freeCells 4 Q 7 [some (.ref 0)] [.int r] M := by
  refine WX.run (pc' := 11) (L' := [some (.ref 0)]) (st' := [.ref 9, .int r]) (M' := M) (P := True) 2 rfl trivial ?_
  refine WX.callV (ca := mi_G_covered) (n := 0) (d' := 3) (st := [.int r]) (As := []) (q := 9) rfl lk_6_165 ck_G_covered cv_G_covered rfl (by decide) rfl (Nat.le_of_ble_eq_true rfl) ⟨by decide, rfl, by decide⟩ (fun w hw => absurd hw List.not_mem_nil) (Nat.le_of_ble_eq_true rfl) ?_
  exact h1
theorem sg_C_freeCells_0_14 {Q : Option Value → Mem → Prop} (M : Mem) (r s1 : Int32)
    (h1 : Q (some (.int (s1 &&& (r ^^^ (-1))))) M) :
    WX mi_C_freeCells 4 Q 14 [some (.ref 0)] [.int r, .int s1] M := by
  refine WX.run (pc' := 17) (L' := [some (.ref 0)]) (st' := [.int (s1 &&& (r ^^^ (-1)))]) (M' := M) (P := True) 3 rfl trivial ?_
  exact WX.iret rfl rfl h1
theorem sg_C_imageOf_0_0 {Q : Option Value → Mem → Prop} (M : Mem) (x1 : Int32)
    (h1 : ¬ x1 = 0 → Q (some (.ref 23)) M)
    (h2 : x1 = 0 → Q (some (.ref 16)) M) :
    WX mi_C_imageOf 1 Q 0 [some (.ref 0), some (.int x1)] [] M := by
  refine WX.run (pc' := 1) (L' := [some (.ref 0), some (.int x1)]) (st' := [.int x1]) (M' := M) (P := True) 1 rfl trivial ?_
  refine WX.if_ne (off := 10) (tgt := 11) rfl rfl (fun c1 => ?_) (fun c1 => ?_)
  · refine WX.run (pc' := 15) (L' := [some (.ref 0), some (.int x1)]) (st' := [.ref 23]) (M' := M) (P := True) 2 rfl trivial ?_
    exact WX.aret rfl rfl (h1 c1)
  · refine WX.run (pc' := 15) (L' := [some (.ref 0), some (.int x1)]) (st' := [.ref 16]) (M' := M) (P := True) 3 rfl trivial ?_
    exact WX.aret rfl rfl (h2 c1)
theorem sg_C_markCell_0_0 {Q : Option Value → Mem → Prop} (M : Mem) (x1 : Int32)
    (b1 : vp_in x1 16)
    (h2 : Q (some (.int (M.1 10 x1.toNatClampNeg))) (wrL M 0 ((M.2 0) + 1))) :
    WX mi_C_markCell 3 Q 0 [some (.ref 0), some (.int x1)] [] M := by
  refine WX.run (pc' := 15) (L' := [some (.ref 0), some (.int x1)]) (st' := [.int x1, .ref 9]) (M' := (wrL M 0 ((M.2 0) + 1))) (P := True) 9 rfl trivial ?_
  refine WX.callV (ca := mi_G_heightOf) (n := 1) (d' := 2) (st := []) (As := [.int x1]) (q := 9) rfl lk_6_100 ck_G_heightOf cv_G_heightOf rfl (by decide) rfl (Nat.le_of_ble_eq_true rfl) ⟨by decide, rfl, by decide⟩ (by intro w hw; simp only [List.mem_cons, List.not_mem_nil, or_false] at hw; rcases hw with rfl <;> rfl) (Nat.le_of_ble_eq_true rfl) ?_
  refine wx_G_heightOf_9b (wrL M 0 ((M.2 0) + 1)) x1 b1 ?_
  show WX mi_C_markCell 3 Q 18 [some (.ref 0), some (.int x1)] [.int (M.1 10 x1.toNatClampNeg)] (wrL M 0 ((M.2 0) + 1))
  exact WX.iret rfl rfl h2
theorem sg_C_markTrue_0_0 {Q : Option Value → Mem → Prop} (M : Mem) (x1 : Int32)
    (h1 : WX mi_C_markCell 3 (fun rv M' => WX mi_C_markTrue 4 Q 17 [some (.ref 0), some (.int x1)] (rv.toList ++ []) M') 0 [some (.ref 0), some (.int x1)] [] (wrL M 0 ((M.2 0) + 10))) :
    WX mi_C_markTrue 4 Q 0 [some (.ref 0), some (.int x1)] [] M := by
  refine WX.run (pc' := 14) (L' := [some (.ref 0), some (.int x1)]) (st' := [.int x1, .ref 0]) (M' := (wrL M 0 ((M.2 0) + 10))) (P := True) 8 rfl trivial ?_
  refine WX.callV (ca := mi_C_markCell) (n := 1) (d' := 3) (st := []) (As := [.int x1]) (q := 0) rfl lk_6_251 ck_C_markCell cv_C_markCell rfl (by decide) rfl (Nat.le_of_ble_eq_true rfl) ⟨by decide, rfl, by decide⟩ (by intro w hw; simp only [List.mem_cons, List.not_mem_nil, or_false] at hw; rcases hw with rfl <;> rfl) (Nat.le_of_ble_eq_true rfl) ?_
  exact h1
theorem sg_C_markTrue_0_17 {Q : Option Value → Mem → Prop} (M : Mem) (x1 r : Int32)
    (h1 : WX mi_L_cells 1 (fun rv M' => WX mi_C_markTrue 4 Q 30 [some (.ref 0), some (.int x1)] (rv.toList ++ [.int (z_C_beside (shl 1 x1)), .int r]) M') 0 [some (.ref 6), none, none, none] [] M) :
    WX mi_C_markTrue 4 Q 17 [some (.ref 0), some (.int x1)] [.int r] M := by
  refine WX.run (pc' := 20) (L' := [some (.ref 0), some (.int x1)]) (st' := [.int (shl 1 x1), .int r]) (M' := M) (P := True) 3 rfl trivial ?_
  refine WX.callS (ca := mi_C_beside) (n := 1) (d' := 1) (st := [.int r]) (As := [.int (shl 1 x1)]) rfl lk_6_238 ck_C_beside cs_C_beside rfl (by decide) rfl (Nat.le_of_ble_eq_true rfl) (by intro w hw; simp only [List.mem_cons, List.not_mem_nil, or_false] at hw; rcases hw with rfl <;> rfl) (Nat.le_of_ble_eq_true rfl) ?_
  refine wx_C_beside M (shl 1 x1) ?_
  show WX mi_C_markTrue 4 Q 23 [some (.ref 0), some (.int x1)] [.int (z_C_beside (shl 1 x1)), .int r] M
  refine WX.run (pc' := 27) (L' := [some (.ref 0), some (.int x1)]) (st' := [.ref 6, .int (z_C_beside (shl 1 x1)), .int r]) (M' := M) (P := True) 2 rfl trivial ?_
  refine WX.callV (ca := mi_L_cells) (n := 0) (d' := 1) (st := [.int (z_C_beside (shl 1 x1)), .int r]) (As := []) (q := 6) rfl lk_6_205 ck_L_cells cv_L_cells rfl (by decide) rfl (Nat.le_of_ble_eq_true rfl) ⟨by decide, rfl, by decide⟩ (fun w hw => absurd hw List.not_mem_nil) (Nat.le_of_ble_eq_true rfl) ?_
  exact h1
theorem sg_C_markTrue_0_30 {Q : Option Value → Mem → Prop} (M : Mem) (x1 r s1 s2 : Int32)
    (h1 : Q (some (.int (s2 + (z_I_bitCount (s1 &&& r))))) M) :
    WX mi_C_markTrue 4 Q 30 [some (.ref 0), some (.int x1)] [.int r, .int s1, .int s2] M := by
  refine WX.run (pc' := 31) (L' := [some (.ref 0), some (.int x1)]) (st' := [.int (s1 &&& r), .int s2]) (M' := M) (P := True) 1 rfl trivial ?_
  refine WX.callS (ca := mi_I_bitCount) (n := 1) (d' := 1) (st := [.int s2]) (As := [.int (s1 &&& r)]) rfl lk_6_182 ck_I_bitCount cs_I_bitCount rfl (by decide) rfl (Nat.le_of_ble_eq_true rfl) (by intro w hw; simp only [List.mem_cons, List.not_mem_nil, or_false] at hw; rcases hw with rfl <;> rfl) (Nat.le_of_ble_eq_true rfl) ?_
  refine wx_I_bitCount M (s1 &&& r) ?_
  show WX mi_C_markTrue 4 Q 34 [some (.ref 0), some (.int x1)] [.int (z_I_bitCount (s1 &&& r)), .int s2] M
  refine WX.run (pc' := 35) (L' := [some (.ref 0), some (.int x1)]) (st' := [.int (s2 + (z_I_bitCount (s1 &&& r)))]) (M' := M) (P := True) 1 rfl trivial ?_
  exact WX.iret rfl rfl h1
theorem sg_C_markLow_0_0 {Q : Option Value → Mem → Prop} (M : Mem) (x1 : Int32)
    (h1 : WX mi_C_markCell 3 (fun rv M' => WX mi_C_markLow 4 Q 17 [some (.ref 0), some (.int x1)] (rv.toList ++ []) M') 0 [some (.ref 0), some (.int x1)] [] (wrL M 0 ((M.2 0) + 100))) :
    WX mi_C_markLow 4 Q 0 [some (.ref 0), some (.int x1)] [] M := by
  refine WX.run (pc' := 14) (L' := [some (.ref 0), some (.int x1)]) (st' := [.int x1, .ref 0]) (M' := (wrL M 0 ((M.2 0) + 100))) (P := True) 8 rfl trivial ?_
  refine WX.callV (ca := mi_C_markCell) (n := 1) (d' := 3) (st := []) (As := [.int x1]) (q := 0) rfl lk_6_251 ck_C_markCell cv_C_markCell rfl (by decide) rfl (Nat.le_of_ble_eq_true rfl) ⟨by decide, rfl, by decide⟩ (by intro w hw; simp only [List.mem_cons, List.not_mem_nil, or_false] at hw; rcases hw with rfl <;> rfl) (Nat.le_of_ble_eq_true rfl) ?_
  exact h1
theorem sg_C_markLow_0_17 {Q : Option Value → Mem → Prop} (M : Mem) (x1 r : Int32)
    (h1 : Q (some (.int (r - (rem x1 4)))) M) :
    WX mi_C_markLow 4 Q 17 [some (.ref 0), some (.int x1)] [.int r] M := by
  refine WX.run (pc' := 21) (L' := [some (.ref 0), some (.int x1)]) (st' := [.int (r - (rem x1 4))]) (M' := M) (P := (True ∧ ¬ 4 = 0)) 4 rfl ⟨trivial, (by decide)⟩ ?_
  exact WX.iret rfl rfl h1
theorem sg_C_markRocking_0_0 {Q : Option Value → Mem → Prop} (M : Mem) (x1 : Int32)
    (h1 : WX mi_C_markTrue 4 (fun rv M' => WX mi_C_markRocking 5 Q 17 [some (.ref 0), some (.int x1)] (rv.toList ++ []) M') 0 [some (.ref 0), some (.int x1)] [] (wrL M 0 ((M.2 0) + 1000))) :
    WX mi_C_markRocking 5 Q 0 [some (.ref 0), some (.int x1)] [] M := by
  refine WX.run (pc' := 14) (L' := [some (.ref 0), some (.int x1)]) (st' := [.int x1, .ref 0]) (M' := (wrL M 0 ((M.2 0) + 1000))) (P := True) 8 rfl trivial ?_
  refine WX.callV (ca := mi_C_markTrue) (n := 1) (d' := 4) (st := []) (As := [.int x1]) (q := 0) rfl lk_6_254 ck_C_markTrue cv_C_markTrue rfl (by decide) rfl (Nat.le_of_ble_eq_true rfl) ⟨by decide, rfl, by decide⟩ (by intro w hw; simp only [List.mem_cons, List.not_mem_nil, or_false] at hw; rcases hw with rfl <;> rfl) (Nat.le_of_ble_eq_true rfl) ?_
  exact h1
theorem sg_C_markRocking_0_17 {Q : Option Value → Mem → Prop} (M : Mem) (x1 r : Int32)
    (h1 : Q (some (.int (r * 2))) M) :
    WX mi_C_markRocking 5 Q 17 [some (.ref 0), some (.int x1)] [.int r] M := by
  refine WX.run (pc' := 19) (L' := [some (.ref 0), some (.int x1)]) (st' := [.int (r * 2)]) (M' := M) (P := True) 2 rfl trivial ?_
  exact WX.iret rfl rfl h1
theorem sg_C_markCut_0_0 {Q : Option Value → Mem → Prop} (M : Mem) (x1 : Int32)
    (h1 : WX mi_C_markLow 4 (fun rv M' => WX mi_C_markCut 5 Q 17 [some (.ref 0), some (.int x1)] (rv.toList ++ []) M') 0 [some (.ref 0), some (.int x1)] [] (wrL M 0 ((M.2 0) + 10000))) :
    WX mi_C_markCut 5 Q 0 [some (.ref 0), some (.int x1)] [] M := by
  refine WX.run (pc' := 14) (L' := [some (.ref 0), some (.int x1)]) (st' := [.int x1, .ref 0]) (M' := (wrL M 0 ((M.2 0) + 10000))) (P := True) 8 rfl trivial ?_
  refine WX.callV (ca := mi_C_markLow) (n := 1) (d' := 4) (st := []) (As := [.int x1]) (q := 0) rfl lk_6_257 ck_C_markLow cv_C_markLow rfl (by decide) rfl (Nat.le_of_ble_eq_true rfl) ⟨by decide, rfl, by decide⟩ (by intro w hw; simp only [List.mem_cons, List.not_mem_nil, or_false] at hw; rcases hw with rfl <;> rfl) (Nat.le_of_ble_eq_true rfl) ?_
  exact h1
theorem sg_C_markCut_0_17 {Q : Option Value → Mem → Prop} (M : Mem) (x1 r : Int32)
    (h1 : Q (some (.int (r + (x1 / 4)))) M) :
    WX mi_C_markCut 5 Q 17 [some (.ref 0), some (.int x1)] [.int r] M := by
  refine WX.run (pc' := 21) (L' := [some (.ref 0), some (.int x1)]) (st' := [.int (r + (x1 / 4))]) (M' := M) (P := (True ∧ ¬ 4 = 0)) 4 rfl ⟨trivial, (by decide)⟩ ?_
  exact WX.iret rfl rfl h1
theorem sg_C_markWet_0_0 {Q : Option Value → Mem → Prop} (M : Mem) (x1 : Int32)
    (h1 : WX mi_C_markCell 3 (fun rv M' => WX mi_C_markWet 4 Q 17 [some (.ref 0), some (.int x1)] (rv.toList ++ []) M') 0 [some (.ref 0), some (.int x1)] [] (wrL M 0 ((M.2 0) + 100000))) :
    WX mi_C_markWet 4 Q 0 [some (.ref 0), some (.int x1)] [] M := by
  refine WX.run (pc' := 14) (L' := [some (.ref 0), some (.int x1)]) (st' := [.int x1, .ref 0]) (M' := (wrL M 0 ((M.2 0) + 100000))) (P := True) 8 rfl trivial ?_
  refine WX.callV (ca := mi_C_markCell) (n := 1) (d' := 3) (st := []) (As := [.int x1]) (q := 0) rfl lk_6_251 ck_C_markCell cv_C_markCell rfl (by decide) rfl (Nat.le_of_ble_eq_true rfl) ⟨by decide, rfl, by decide⟩ (by intro w hw; simp only [List.mem_cons, List.not_mem_nil, or_false] at hw; rcases hw with rfl <;> rfl) (Nat.le_of_ble_eq_true rfl) ?_
  exact h1
theorem sg_C_markWet_0_17 {Q : Option Value → Mem → Prop} (M : Mem) (x1 r : Int32)
    (h1 : Q (some (.int (r + (M.1 9 4)))) M) :
    WX mi_C_markWet 4 Q 17 [some (.ref 0), some (.int x1)] [.int r] M := by
  refine WX.run (pc' := 25) (L' := [some (.ref 0), some (.int x1)]) (st' := [.int (r + (M.1 9 4))]) (M' := M) (P := True) 4 rfl trivial ?_
  exact WX.iret rfl rfl h1
theorem sg_C_type_0_0 {Q : Option Value → Mem → Prop} (M : Mem) (x1 : Int32)
    (h1 : x1 < 0 → Q (some (.int (-1))) M)
    (h2 : ¬ x1 < 0 → x1 ≤ 255 → WX mi_R_take 1 (fun rv M' => WX mi_C_type 2 Q 21 [some (.ref 0), some (.int x1)] (rv.toList ++ []) M') 0 [some (.ref 1), some (.int x1)] [] M)
    (h3 : ¬ x1 < 0 → ¬ x1 ≤ 255 → Q (some (.int (-1))) M) :
    WX mi_C_type 2 Q 0 [some (.ref 0), some (.int x1)] [] M := by
  refine WX.run (pc' := 1) (L' := [some (.ref 0), some (.int x1)]) (st' := [.int x1]) (M' := M) (P := True) 1 rfl trivial ?_
  refine WX.if_lt (off := 10) (tgt := 11) rfl rfl (fun c1 => ?_) (fun c1 => ?_)
  · refine WX.run (pc' := 12) (L' := [some (.ref 0), some (.int x1)]) (st' := [.int (-1)]) (M' := M) (P := True) 1 rfl trivial ?_
    exact WX.iret rfl rfl (h1 c1)
  · refine WX.run (pc' := 8) (L' := [some (.ref 0), some (.int x1)]) (st' := [.int 255, .int x1]) (M' := M) (P := True) 2 rfl trivial ?_
    refine WX.icmp_le (off := 5) (tgt := 13) rfl rfl (fun c2 => ?_) (fun c2 => ?_)
    · refine WX.run (pc' := 18) (L' := [some (.ref 0), some (.int x1)]) (st' := [.int x1, .ref 1]) (M' := M) (P := True) 3 rfl trivial ?_
      refine WX.callV (ca := mi_R_take) (n := 1) (d' := 1) (st := []) (As := [.int x1]) (q := 1) rfl lk_6_57 ck_R_take cv_R_take rfl (by decide) rfl (Nat.le_of_ble_eq_true rfl) ⟨by decide, rfl, by decide⟩ (by intro w hw; simp only [List.mem_cons, List.not_mem_nil, or_false] at hw; rcases hw with rfl <;> rfl) (Nat.le_of_ble_eq_true rfl) ?_
      exact (h2 c1 c2)
    · refine WX.run (pc' := 12) (L' := [some (.ref 0), some (.int x1)]) (st' := [.int (-1)]) (M' := M) (P := True) 1 rfl trivial ?_
      exact WX.iret rfl rfl (h3 c1 c2)
theorem sg_C_type_0_21 {Q : Option Value → Mem → Prop} (M : Mem) (x1 r : Int32)
    (h1 : r = 0 → Q (some (.int (-3))) M)
    (h2 : ¬ r = 0 → Q (some (.int (M.1 1 1))) M) :
    WX mi_C_type 2 Q 21 [some (.ref 0), some (.int x1)] [.int r] M := by
  refine WX.if_eq (off := 13) (tgt := 34) rfl rfl (fun c1 => ?_) (fun c1 => ?_)
  · refine WX.run (pc' := 36) (L' := [some (.ref 0), some (.int x1)]) (st' := [.int (-3)]) (M' := M) (P := True) 1 rfl trivial ?_
    exact WX.iret rfl rfl (h1 c1)
  · refine WX.run (pc' := 36) (L' := [some (.ref 0), some (.int x1)]) (st' := [.int (M.1 1 1)]) (M' := M) (P := True) 4 rfl trivial ?_
    exact WX.iret rfl rfl (h2 c1)
theorem sg_C_yard_0_0 {Q : Option Value → Mem → Prop} (M : Mem)
    (h1 : WX mi_R_readAll 6 (fun rv M' => WX mi_C_yard 7 Q 7 [some (.ref 0), none] (rv.toList ++ []) M') 0 [some (.ref 1), none] [] M) :
    WX mi_C_yard 7 Q 0 [some (.ref 0), none] [] M := by
  refine WX.run (pc' := 4) (L' := [some (.ref 0), none]) (st' := [.ref 1]) (M' := M) (P := True) 2 rfl trivial ?_
  refine WX.callV (ca := mi_R_readAll) (n := 0) (d' := 6) (st := []) (As := []) (q := 1) rfl lk_6_65 ck_R_readAll cv_R_readAll rfl (by decide) rfl (Nat.le_of_ble_eq_true rfl) ⟨by decide, rfl, by decide⟩ (fun w hw => absurd hw List.not_mem_nil) (Nat.le_of_ble_eq_true rfl) ?_
  exact h1
theorem sg_C_yard_0_7 {Q : Option Value → Mem → Prop} (M : Mem) (r : Int32)
    (h1 : 0 ≤ r → WX mi_L_copyFrom 1 (fun rv M' => WX mi_C_yard 7 Q 28 [some (.ref 0), some (.int r)] (rv.toList ++ []) M') 0 [some (.ref 6), some (.ref 3), none] [] M)
    (h2 : ¬ 0 ≤ r → Q (some (.int r)) M) :
    WX mi_C_yard 7 Q 7 [some (.ref 0), none] [.int r] M := by
  refine WX.run (pc' := 9) (L' := [some (.ref 0), some (.int r)]) (st' := [.int r]) (M' := M) (P := True) 2 rfl trivial ?_
  refine WX.if_ge (off := 5) (tgt := 14) rfl rfl (fun c1 => ?_) (fun c1 => ?_)
  · refine WX.run (pc' := 25) (L' := [some (.ref 0), some (.int r)]) (st' := [.ref 3, .ref 6]) (M' := M) (P := True) 5 rfl trivial ?_
    refine WX.callV (ca := mi_L_copyFrom) (n := 1) (d' := 1) (st := []) (As := [.ref 3]) (q := 6) rfl lk_6_72 ck_L_copyFrom cv_L_copyFrom rfl (by decide) rfl (Nat.le_of_ble_eq_true rfl) ⟨by decide, rfl, by decide⟩ (by intro w hw; simp only [List.mem_cons, List.not_mem_nil, or_false] at hw; rcases hw with rfl <;> rfl) (Nat.le_of_ble_eq_true rfl) ?_
    exact (h1 c1)
  · refine WX.run (pc' := 13) (L' := [some (.ref 0), some (.int r)]) (st' := [.int r]) (M' := M) (P := True) 1 rfl trivial ?_
    exact WX.iret rfl rfl (h2 c1)
theorem sg_C_yard_0_28 {Q : Option Value → Mem → Prop} (M : Mem) (x1 : Int32)
    (h1 : WX mi_G_startOn 1 (fun rv M' => WX mi_C_yard 7 Q 39 [some (.ref 0), some (.int x1)] (rv.toList ++ []) M') 0 [some (.ref 9), some (.ref 6), none] [] M) :
    WX mi_C_yard 7 Q 28 [some (.ref 0), some (.int x1)] [] M := by
  refine WX.run (pc' := 36) (L' := [some (.ref 0), some (.int x1)]) (st' := [.ref 6, .ref 9]) (M' := M) (P := True) 4 rfl trivial ?_
  refine WX.callV (ca := mi_G_startOn) (n := 1) (d' := 1) (st := []) (As := [.ref 6]) (q := 9) rfl lk_6_76 ck_G_startOn cv_G_startOn rfl (by decide) rfl (Nat.le_of_ble_eq_true rfl) ⟨by decide, rfl, by decide⟩ (by intro w hw; simp only [List.mem_cons, List.not_mem_nil, or_false] at hw; rcases hw with rfl <;> rfl) (Nat.le_of_ble_eq_true rfl) ?_
  exact h1
theorem sg_C_yard_0_39 {Q : Option Value → Mem → Prop} (M : Mem) (x1 : Int32)
    (h1 : Q (some (.int x1)) (wr (wr (wr (wr M 1 1 0) 0 8 0) 0 9 0) 0 10 0)) :
    WX mi_C_yard 7 Q 39 [some (.ref 0), some (.int x1)] [] M := by
  refine WX.run (pc' := 63) (L' := [some (.ref 0), some (.int x1)]) (st' := [.int x1]) (M' := (wr (wr (wr (wr M 1 1 0) 0 8 0) 0 9 0) 0 10 0)) (P := True) 14 rfl trivial ?_
  exact WX.iret rfl rfl h1
theorem sg_C_cell_0_0 {Q : Option Value → Mem → Prop} (M : Mem) (x1 x2 x3 : Int32)
    (h1 : (z_L_has_6 M x1 x2) = 0 → Q (some (.int (-1))) M)
    (h2 : ¬ (z_L_has_6 M x1 x2) = 0 → x3 < 0 → Q (some (.int (-1))) M)
    (h3 : ¬ (z_L_has_6 M x1 x2) = 0 → ¬ x3 < 0 → x3 ≤ 4 → WX mi_G_slabOn 4 (fun rv M' => WX mi_C_cell 5 Q 39 [some (.ref 0), some (.int x1), some (.int x2), some (.int x3), some (.int (z_C_numberOf x1 x2)), none] (rv.toList ++ []) M') 0 [some (.ref 9), some (.int (z_C_numberOf x1 x2)), none] [] M)
    (h4 : ¬ (z_L_has_6 M x1 x2) = 0 → ¬ x3 < 0 → ¬ x3 ≤ 4 → Q (some (.int (-1))) M) :
    WX mi_C_cell 5 Q 0 [some (.ref 0), some (.int x1), some (.int x2), some (.int x3), none, none] [] M := by
  refine WX.run (pc' := 6) (L' := [some (.ref 0), some (.int x1), some (.int x2), some (.int x3), none, none]) (st' := [.int x2, .int x1, .ref 6]) (M' := M) (P := True) 4 rfl trivial ?_
  refine WX.callV (ca := mi_L_has) (n := 2) (d' := 1) (st := []) (As := [.int x1, .int x2]) (q := 6) rfl lk_6_88 ck_L_has cv_L_has rfl (by decide) rfl (Nat.le_of_ble_eq_true rfl) ⟨by decide, rfl, by decide⟩ (by intro w hw; simp only [List.mem_cons, List.not_mem_nil, or_false] at hw; rcases hw with rfl | rfl <;> rfl) (Nat.le_of_ble_eq_true rfl) ?_
  refine wx_L_has_6 M x1 x2 ?_
  show WX mi_C_cell 5 Q 9 [some (.ref 0), some (.int x1), some (.int x2), some (.int x3), none, none] [.int (z_L_has_6 M x1 x2)] M
  refine WX.if_eq (off := 12) (tgt := 21) rfl rfl (fun c1 => ?_) (fun c1 => ?_)
  · refine WX.run (pc' := 22) (L' := [some (.ref 0), some (.int x1), some (.int x2), some (.int x3), none, none]) (st' := [.int (-1)]) (M' := M) (P := True) 1 rfl trivial ?_
    exact WX.iret rfl rfl (h1 c1)
  · refine WX.run (pc' := 13) (L' := [some (.ref 0), some (.int x1), some (.int x2), some (.int x3), none, none]) (st' := [.int x3]) (M' := M) (P := True) 1 rfl trivial ?_
    refine WX.if_lt (off := 8) (tgt := 21) rfl rfl (fun c2 => ?_) (fun c2 => ?_)
    · refine WX.run (pc' := 22) (L' := [some (.ref 0), some (.int x1), some (.int x2), some (.int x3), none, none]) (st' := [.int (-1)]) (M' := M) (P := True) 1 rfl trivial ?_
      exact WX.iret rfl rfl (h2 c1 c2)
    · refine WX.run (pc' := 18) (L' := [some (.ref 0), some (.int x1), some (.int x2), some (.int x3), none, none]) (st' := [.int 4, .int x3]) (M' := M) (P := True) 2 rfl trivial ?_
      refine WX.icmp_le (off := 5) (tgt := 23) rfl rfl (fun c3 => ?_) (fun c3 => ?_)
      · refine WX.run (pc' := 25) (L' := [some (.ref 0), some (.int x1), some (.int x2), some (.int x3), none, none]) (st' := [.int x2, .int x1]) (M' := M) (P := True) 2 rfl trivial ?_
        refine WX.callS (ca := mi_C_numberOf) (n := 2) (d' := 1) (st := []) (As := [.int x1, .int x2]) rfl lk_6_92 ck_C_numberOf cs_C_numberOf rfl (by decide) rfl (Nat.le_of_ble_eq_true rfl) (by intro w hw; simp only [List.mem_cons, List.not_mem_nil, or_false] at hw; rcases hw with rfl | rfl <;> rfl) (Nat.le_of_ble_eq_true rfl) ?_
        refine wx_C_numberOf M x1 x2 ?_
        show WX mi_C_cell 5 Q 28 [some (.ref 0), some (.int x1), some (.int x2), some (.int x3), none, none] [.int (z_C_numberOf x1 x2)] M
        refine WX.run (pc' := 36) (L' := [some (.ref 0), some (.int x1), some (.int x2), some (.int x3), some (.int (z_C_numberOf x1 x2)), none]) (st' := [.int (z_C_numberOf x1 x2), .ref 9]) (M' := M) (P := True) 4 rfl trivial ?_
        refine WX.callV (ca := mi_G_slabOn) (n := 1) (d' := 4) (st := []) (As := [.int (z_C_numberOf x1 x2)]) (q := 9) rfl lk_6_96 ck_G_slabOn cv_G_slabOn rfl (by decide) rfl (Nat.le_of_ble_eq_true rfl) ⟨by decide, rfl, by decide⟩ (by intro w hw; simp only [List.mem_cons, List.not_mem_nil, or_false] at hw; rcases hw with rfl <;> rfl) (Nat.le_of_ble_eq_true rfl) ?_
        exact (h3 c1 c2 c3)
      · refine WX.run (pc' := 22) (L' := [some (.ref 0), some (.int x1), some (.int x2), some (.int x3), none, none]) (st' := [.int (-1)]) (M' := M) (P := True) 1 rfl trivial ?_
        exact WX.iret rfl rfl (h4 c1 c2 c3)
theorem sg_C_cell_0_39 {Q : Option Value → Mem → Prop} (M : Mem) (x1 x2 x3 x4 r : Int32)
    (b1 : x3 = 0 → vp_in x4 16)
    (h2 : x3 = 0 → Q (some (.int (M.1 10 x4.toNatClampNeg))) M)
    (h3 : x3 = 1 → Q (some (.int (z_L_sortOf_6 M x4))) M)
    (h4 : x3 = 2 → Q (some (.int (z_G_sizeOf_9 M r))) M)
    (h5 : x3 = 3 → Q (some (.int r)) M)
    (h6 : ¬ x3 = 0 → ¬ x3 = 1 → ¬ x3 = 2 → ¬ x3 = 3 → (z_G_isTodays_9 M r) = 0 → Q (some (.int 0)) M)
    (h7 : ¬ x3 = 0 → ¬ x3 = 1 → ¬ x3 = 2 → ¬ x3 = 3 → ¬ (z_G_isTodays_9 M r) = 0 → Q (some (.int 1)) M) :
    WX mi_C_cell 5 Q 39 [some (.ref 0), some (.int x1), some (.int x2), some (.int x3), some (.int x4), none] [.int r] M := by
  refine WX.run (pc' := 42) (L' := [some (.ref 0), some (.int x1), some (.int x2), some (.int x3), some (.int x4), some (.int r)]) (st' := [.int x3]) (M' := M) (P := True) 2 rfl trivial ?_
  by_cases c1 : x3 = 0
  · refine WX.tsw (tgt := 72) rfl (by decide) (by rw [c1]; decide) ?_
    refine WX.run (pc' := 78) (L' := [some (.ref 0), some (.int x1), some (.int x2), some (.int x3), some (.int x4), some (.int r)]) (st' := [.int x4, .ref 9]) (M' := M) (P := True) 3 rfl trivial ?_
    refine WX.callV (ca := mi_G_heightOf) (n := 1) (d' := 2) (st := []) (As := [.int x4]) (q := 9) rfl lk_6_100 ck_G_heightOf cv_G_heightOf rfl (by decide) rfl (Nat.le_of_ble_eq_true rfl) ⟨by decide, rfl, by decide⟩ (by intro w hw; simp only [List.mem_cons, List.not_mem_nil, or_false] at hw; rcases hw with rfl <;> rfl) (Nat.le_of_ble_eq_true rfl) ?_
    refine wx_G_heightOf_9b M x4 (b1 c1) ?_
    show WX mi_C_cell 5 Q 81 [some (.ref 0), some (.int x1), some (.int x2), some (.int x3), some (.int x4), some (.int r)] [.int (M.1 10 x4.toNatClampNeg)] M
    exact WX.iret rfl rfl (h2 c1)
  · skip
    by_cases c2 : x3 = 1
    · refine WX.tsw (tgt := 82) rfl (by decide) (by rw [c2]; decide) ?_
      refine WX.run (pc' := 88) (L' := [some (.ref 0), some (.int x1), some (.int x2), some (.int x3), some (.int x4), some (.int r)]) (st' := [.int x4, .ref 6]) (M' := M) (P := True) 3 rfl trivial ?_
      refine WX.callV (ca := mi_L_sortOf) (n := 1) (d' := 2) (st := []) (As := [.int x4]) (q := 6) rfl lk_6_103 ck_L_sortOf cv_L_sortOf rfl (by decide) rfl (Nat.le_of_ble_eq_true rfl) ⟨by decide, rfl, by decide⟩ (by intro w hw; simp only [List.mem_cons, List.not_mem_nil, or_false] at hw; rcases hw with rfl <;> rfl) (Nat.le_of_ble_eq_true rfl) ?_
      refine wx_L_sortOf_6 M x4 ?_
      show WX mi_C_cell 5 Q 91 [some (.ref 0), some (.int x1), some (.int x2), some (.int x3), some (.int x4), some (.int r)] [.int (z_L_sortOf_6 M x4)] M
      exact WX.iret rfl rfl (h3 c2)
    · skip
      by_cases c3 : x3 = 2
      · refine WX.tsw (tgt := 92) rfl (by decide) (by rw [c3]; decide) ?_
        refine WX.run (pc' := 98) (L' := [some (.ref 0), some (.int x1), some (.int x2), some (.int x3), some (.int x4), some (.int r)]) (st' := [.int r, .ref 9]) (M' := M) (P := True) 3 rfl trivial ?_
        refine WX.callV (ca := mi_G_sizeOf) (n := 1) (d' := 2) (st := []) (As := [.int r]) (q := 9) rfl lk_6_106 ck_G_sizeOf cv_G_sizeOf rfl (by decide) rfl (Nat.le_of_ble_eq_true rfl) ⟨by decide, rfl, by decide⟩ (by intro w hw; simp only [List.mem_cons, List.not_mem_nil, or_false] at hw; rcases hw with rfl <;> rfl) (Nat.le_of_ble_eq_true rfl) ?_
        refine wx_G_sizeOf_9f M r ?_
        show WX mi_C_cell 5 Q 101 [some (.ref 0), some (.int x1), some (.int x2), some (.int x3), some (.int x4), some (.int r)] [.int (z_G_sizeOf_9 M r)] M
        exact WX.iret rfl rfl (h4 c3)
      · skip
        by_cases c4 : x3 = 3
        · refine WX.tsw (tgt := 102) rfl (by decide) (by rw [c4]; decide) ?_
          refine WX.run (pc' := 104) (L' := [some (.ref 0), some (.int x1), some (.int x2), some (.int x3), some (.int x4), some (.int r)]) (st' := [.int r]) (M' := M) (P := True) 1 rfl trivial ?_
          exact WX.iret rfl rfl (h5 c4)
        · skip
          refine WX.tsw (tgt := 105) rfl (by decide) (by
                by_cases hr : (x3).toInt < 0 ∨ 3 < (x3).toInt
                · unfold tswo; rw [if_pos hr]; rfl
                · have hh : (x3).toInt = 0 ∨ (x3).toInt = 1 ∨ (x3).toInt = 2 ∨ (x3).toInt = 3 := by omega
                  rcases hh with hh | hh | hh | hh
                  · exact absurd hh (i32_ne c1 (by decide))
                  · exact absurd hh (i32_ne c2 (by decide))
                  · exact absurd hh (i32_ne c3 (by decide))
                  · exact absurd hh (i32_ne c4 (by decide))) ?_
          refine WX.run (pc' := 111) (L' := [some (.ref 0), some (.int x1), some (.int x2), some (.int x3), some (.int x4), some (.int r)]) (st' := [.int r, .ref 9]) (M' := M) (P := True) 3 rfl trivial ?_
          refine WX.callV (ca := mi_G_isTodays) (n := 1) (d' := 2) (st := []) (As := [.int r]) (q := 9) rfl lk_6_109 ck_G_isTodays cv_G_isTodays rfl (by decide) rfl (Nat.le_of_ble_eq_true rfl) ⟨by decide, rfl, by decide⟩ (by intro w hw; simp only [List.mem_cons, List.not_mem_nil, or_false] at hw; rcases hw with rfl <;> rfl) (Nat.le_of_ble_eq_true rfl) ?_
          refine wx_G_isTodays_9 M r ?_
          show WX mi_C_cell 5 Q 114 [some (.ref 0), some (.int x1), some (.int x2), some (.int x3), some (.int x4), some (.int r)] [.int (z_G_isTodays_9 M r)] M
          refine WX.if_eq (off := 7) (tgt := 121) rfl rfl (fun c5 => ?_) (fun c5 => ?_)
          · refine WX.run (pc' := 122) (L' := [some (.ref 0), some (.int x1), some (.int x2), some (.int x3), some (.int x4), some (.int r)]) (st' := [.int 0]) (M' := M) (P := True) 1 rfl trivial ?_
            exact WX.iret rfl rfl (h6 c1 c2 c3 c4 c5)
          · refine WX.run (pc' := 122) (L' := [some (.ref 0), some (.int x1), some (.int x2), some (.int x3), some (.int x4), some (.int r)]) (st' := [.int 1]) (M' := M) (P := True) 2 rfl trivial ?_
            exact WX.iret rfl rfl (h7 c1 c2 c3 c4 c5)
theorem sg_C_lays_0_0 {Q : Option Value → Mem → Prop} (M : Mem) (x1 x2 x3 : Int32)
    (h1 : (z_C_isSize x1) = 0 → Q (some (.int (-1))) M)
    (b2 : ¬ (z_C_isSize x1) = 0 → ¬ (z_L_has_6 M x2 x3) = 0 → vp_in x1 4)
    (h3 : ¬ (z_C_isSize x1) = 0 → ¬ (z_L_has_6 M x2 x3) = 0 → (M.1 12 x1.toNatClampNeg) ≤ 0 → Q (some (.int (-2))) M)
    (h4 : ¬ (z_C_isSize x1) = 0 → ¬ (z_L_has_6 M x2 x3) = 0 → ¬ (M.1 12 x1.toNatClampNeg) ≤ 0 → WX mi_C_freeCells 4 (fun rv M' => WX mi_C_lays 5 Q 47 [some (.ref 0), some (.int x1), some (.int x2), some (.int x3), some (.int (z_C_numberOf x2 x3))] (rv.toList ++ [.int (z_C_numberOf x2 x3), .int x1]) M') 0 [some (.ref 0)] [] M)
    (h5 : ¬ (z_C_isSize x1) = 0 → (z_L_has_6 M x2 x3) = 0 → Q (some (.int (-1))) M) :
    WX mi_C_lays 5 Q 0 [some (.ref 0), some (.int x1), some (.int x2), some (.int x3), none] [] M := by
  refine WX.run (pc' := 1) (L' := [some (.ref 0), some (.int x1), some (.int x2), some (.int x3), none]) (st' := [.int x1]) (M' := M) (P := True) 1 rfl trivial ?_
  refine WX.callS (ca := mi_C_isSize) (n := 1) (d' := 1) (st := []) (As := [.int x1]) rfl lk_6_112 ck_C_isSize cs_C_isSize rfl (by decide) rfl (Nat.le_of_ble_eq_true rfl) (by intro w hw; simp only [List.mem_cons, List.not_mem_nil, or_false] at hw; rcases hw with rfl <;> rfl) (Nat.le_of_ble_eq_true rfl) ?_
  refine wx_C_isSize M x1 ?_
  show WX mi_C_lays 5 Q 4 [some (.ref 0), some (.int x1), some (.int x2), some (.int x3), none] [.int (z_C_isSize x1)] M
  refine WX.if_eq (off := 15) (tgt := 19) rfl rfl (fun c1 => ?_) (fun c1 => ?_)
  · refine WX.run (pc' := 20) (L' := [some (.ref 0), some (.int x1), some (.int x2), some (.int x3), none]) (st' := [.int (-1)]) (M' := M) (P := True) 1 rfl trivial ?_
    exact WX.iret rfl rfl (h1 c1)
  · refine WX.run (pc' := 13) (L' := [some (.ref 0), some (.int x1), some (.int x2), some (.int x3), none]) (st' := [.int x3, .int x2, .ref 6]) (M' := M) (P := True) 4 rfl trivial ?_
    refine WX.callV (ca := mi_L_has) (n := 2) (d' := 1) (st := []) (As := [.int x2, .int x3]) (q := 6) rfl lk_6_88 ck_L_has cv_L_has rfl (by decide) rfl (Nat.le_of_ble_eq_true rfl) ⟨by decide, rfl, by decide⟩ (by intro w hw; simp only [List.mem_cons, List.not_mem_nil, or_false] at hw; rcases hw with rfl | rfl <;> rfl) (Nat.le_of_ble_eq_true rfl) ?_
    refine wx_L_has_6 M x2 x3 ?_
    show WX mi_C_lays 5 Q 16 [some (.ref 0), some (.int x1), some (.int x2), some (.int x3), none] [.int (z_L_has_6 M x2 x3)] M
    refine WX.if_ne (off := 5) (tgt := 21) rfl rfl (fun c2 => ?_) (fun c2 => ?_)
    · refine WX.run (pc' := 23) (L' := [some (.ref 0), some (.int x1), some (.int x2), some (.int x3), none]) (st' := [.int x3, .int x2]) (M' := M) (P := True) 2 rfl trivial ?_
      refine WX.callS (ca := mi_C_numberOf) (n := 2) (d' := 1) (st := []) (As := [.int x2, .int x3]) rfl lk_6_92 ck_C_numberOf cs_C_numberOf rfl (by decide) rfl (Nat.le_of_ble_eq_true rfl) (by intro w hw; simp only [List.mem_cons, List.not_mem_nil, or_false] at hw; rcases hw with rfl | rfl <;> rfl) (Nat.le_of_ble_eq_true rfl) ?_
      refine wx_C_numberOf M x2 x3 ?_
      show WX mi_C_lays 5 Q 26 [some (.ref 0), some (.int x1), some (.int x2), some (.int x3), none] [.int (z_C_numberOf x2 x3)] M
      refine WX.run (pc' := 37) (L' := [some (.ref 0), some (.int x1), some (.int x2), some (.int x3), some (.int (z_C_numberOf x2 x3))]) (st' := [.int (M.1 12 x1.toNatClampNeg)]) (M' := M) (P := (True ∧ vp_in x1 4)) 6 rfl ⟨trivial, (b2 c1 c2)⟩ ?_
      refine WX.if_le (off := 16) (tgt := 53) rfl rfl (fun c3 => ?_) (fun c3 => ?_)
      · refine WX.run (pc' := 55) (L' := [some (.ref 0), some (.int x1), some (.int x2), some (.int x3), some (.int (z_C_numberOf x2 x3))]) (st' := [.int (-2)]) (M' := M) (P := True) 1 rfl trivial ?_
        exact WX.iret rfl rfl (h3 c1 c2 c3)
      · refine WX.run (pc' := 44) (L' := [some (.ref 0), some (.int x1), some (.int x2), some (.int x3), some (.int (z_C_numberOf x2 x3))]) (st' := [.ref 0, .int (z_C_numberOf x2 x3), .int x1]) (M' := M) (P := True) 3 rfl trivial ?_
        refine WX.callV (ca := mi_C_freeCells) (n := 0) (d' := 4) (st := [.int (z_C_numberOf x2 x3), .int x1]) (As := []) (q := 0) rfl lk_6_119 ck_C_freeCells cv_C_freeCells rfl (by decide) rfl (Nat.le_of_ble_eq_true rfl) ⟨by decide, rfl, by decide⟩ (fun w hw => absurd hw List.not_mem_nil) (Nat.le_of_ble_eq_true rfl) ?_
        exact (h4 c1 c2 c3)
    · refine WX.run (pc' := 20) (L' := [some (.ref 0), some (.int x1), some (.int x2), some (.int x3), none]) (st' := [.int (-1)]) (M' := M) (P := True) 1 rfl trivial ?_
      exact WX.iret rfl rfl (h5 c1 c2)
theorem sg_C_lays_0_47 {Q : Option Value → Mem → Prop} (M : Mem) (x1 x2 x3 x4 r s1 s2 : Int32)
    (b1 : ¬ (z_C_isSize s2) = 0 → ¬ (z_C_isNumber s1) = 0 → vp_in s2 4)
    (b2 : ¬ (z_C_isSize s2) = 0 → ¬ (z_C_isNumber s1) = 0 → ¬ 4 < ((rem s1 4) + (stV 1 s2.toNatClampNeg)) → ¬ s2 < 0 → ¬ 4 ≤ s2 → vp_in s2 4)
    (h3 : ¬ (z_C_fits s2 s1 r) = 0 → WX mi_G_lay 3 (fun rv M' => WX mi_C_lays 5 Q 66 [some (.ref 0), some (.int x1), some (.int x2), some (.int x3), some (.int x4)] (rv.toList ++ []) M') 0 [some (.ref 9), some (.int x1), some (.int x4)] [] M)
    (h4 : (z_C_fits s2 s1 r) = 0 → Q (some (.int (-2))) M) :
    WX mi_C_lays 5 Q 47 [some (.ref 0), some (.int x1), some (.int x2), some (.int x3), some (.int x4)] [.int r, .int s1, .int s2] M := by
  refine WX.callS (ca := mi_C_fits) (n := 3) (d' := 2) (st := []) (As := [.int s2, .int s1, .int r]) rfl lk_6_122 ck_C_fits cs_C_fits rfl (by decide) rfl (Nat.le_of_ble_eq_true rfl) (by intro w hw; simp only [List.mem_cons, List.not_mem_nil, or_false] at hw; rcases hw with rfl | rfl | rfl <;> rfl) (Nat.le_of_ble_eq_true rfl) ?_
  refine wx_C_fits M s2 s1 r b1 b2 ?_
  show WX mi_C_lays 5 Q 50 [some (.ref 0), some (.int x1), some (.int x2), some (.int x3), some (.int x4)] [.int (z_C_fits s2 s1 r)] M
  refine WX.if_ne (off := 6) (tgt := 56) rfl rfl (fun c1 => ?_) (fun c1 => ?_)
  · refine WX.run (pc' := 63) (L' := [some (.ref 0), some (.int x1), some (.int x2), some (.int x3), some (.int x4)]) (st' := [.int x4, .int x1, .ref 9]) (M' := M) (P := True) 4 rfl trivial ?_
    refine WX.callV (ca := mi_G_lay) (n := 2) (d' := 3) (st := []) (As := [.int x1, .int x4]) (q := 9) rfl lk_6_126 ck_G_lay cv_G_lay rfl (by decide) rfl (Nat.le_of_ble_eq_true rfl) ⟨by decide, rfl, by decide⟩ (by intro w hw; simp only [List.mem_cons, List.not_mem_nil, or_false] at hw; rcases hw with rfl | rfl <;> rfl) (Nat.le_of_ble_eq_true rfl) ?_
    exact (h3 c1)
  · refine WX.run (pc' := 55) (L' := [some (.ref 0), some (.int x1), some (.int x2), some (.int x3), some (.int x4)]) (st' := [.int (-2)]) (M' := M) (P := True) 1 rfl trivial ?_
    exact WX.iret rfl rfl (h4 c1)
theorem sg_C_lays_0_66 {Q : Option Value → Mem → Prop} (M : Mem) (x1 x2 x3 x4 : Int32)
    (b1 : vp_in x1 4)
    (h2 : Q (some (.int (M.1 12 x1.toNatClampNeg))) M) :
    WX mi_C_lays 5 Q 66 [some (.ref 0), some (.int x1), some (.int x2), some (.int x3), some (.int x4)] [] M := by
  refine WX.run (pc' := 75) (L' := [some (.ref 0), some (.int x1), some (.int x2), some (.int x3), some (.int x4)]) (st' := [.int (M.1 12 x1.toNatClampNeg)]) (M' := M) (P := (True ∧ vp_in x1 4)) 5 rfl ⟨trivial, b1⟩ ?_
  exact WX.iret rfl rfl h2
theorem sg_C_lifts_0_0 {Q : Option Value → Mem → Prop} (M : Mem) (x1 x2 : Int32)
    (h1 : ¬ (z_L_has_6 M x1 x2) = 0 → WX mi_G_slabOn 4 (fun rv M' => WX mi_C_lifts 5 Q 26 [some (.ref 0), some (.int x1), some (.int x2), none] (rv.toList ++ []) M') 0 [some (.ref 9), some (.int (z_C_numberOf x1 x2)), none] [] M)
    (h2 : (z_L_has_6 M x1 x2) = 0 → Q (some (.int (-1))) M) :
    WX mi_C_lifts 5 Q 0 [some (.ref 0), some (.int x1), some (.int x2), none] [] M := by
  refine WX.run (pc' := 6) (L' := [some (.ref 0), some (.int x1), some (.int x2), none]) (st' := [.int x2, .int x1, .ref 6]) (M' := M) (P := True) 4 rfl trivial ?_
  refine WX.callV (ca := mi_L_has) (n := 2) (d' := 1) (st := []) (As := [.int x1, .int x2]) (q := 6) rfl lk_6_88 ck_L_has cv_L_has rfl (by decide) rfl (Nat.le_of_ble_eq_true rfl) ⟨by decide, rfl, by decide⟩ (by intro w hw; simp only [List.mem_cons, List.not_mem_nil, or_false] at hw; rcases hw with rfl | rfl <;> rfl) (Nat.le_of_ble_eq_true rfl) ?_
  refine wx_L_has_6 M x1 x2 ?_
  show WX mi_C_lifts 5 Q 9 [some (.ref 0), some (.int x1), some (.int x2), none] [.int (z_L_has_6 M x1 x2)] M
  refine WX.if_ne (off := 5) (tgt := 14) rfl rfl (fun c1 => ?_) (fun c1 => ?_)
  · refine WX.run (pc' := 20) (L' := [some (.ref 0), some (.int x1), some (.int x2), none]) (st' := [.int x2, .int x1, .ref 9]) (M' := M) (P := True) 4 rfl trivial ?_
    refine WX.callS (ca := mi_C_numberOf) (n := 2) (d' := 1) (st := [.ref 9]) (As := [.int x1, .int x2]) rfl lk_6_92 ck_C_numberOf cs_C_numberOf rfl (by decide) rfl (Nat.le_of_ble_eq_true rfl) (by intro w hw; simp only [List.mem_cons, List.not_mem_nil, or_false] at hw; rcases hw with rfl | rfl <;> rfl) (Nat.le_of_ble_eq_true rfl) ?_
    refine wx_C_numberOf M x1 x2 ?_
    show WX mi_C_lifts 5 Q 23 [some (.ref 0), some (.int x1), some (.int x2), none] [.int (z_C_numberOf x1 x2), .ref 9] M
    refine WX.callV (ca := mi_G_slabOn) (n := 1) (d' := 4) (st := []) (As := [.int (z_C_numberOf x1 x2)]) (q := 9) rfl lk_6_96 ck_G_slabOn cv_G_slabOn rfl (by decide) rfl (Nat.le_of_ble_eq_true rfl) ⟨by decide, rfl, by decide⟩ (by intro w hw; simp only [List.mem_cons, List.not_mem_nil, or_false] at hw; rcases hw with rfl <;> rfl) (Nat.le_of_ble_eq_true rfl) ?_
    exact (h1 c1)
  · refine WX.run (pc' := 13) (L' := [some (.ref 0), some (.int x1), some (.int x2), none]) (st' := [.int (-1)]) (M' := M) (P := True) 1 rfl trivial ?_
    exact WX.iret rfl rfl (h2 c1)
theorem sg_C_lifts_0_26 {Q : Option Value → Mem → Prop} (M : Mem) (x1 x2 r : Int32)
    (h1 : ¬ r = (-9) → WX mi_G_lift 4 (fun rv M' => WX mi_C_lifts 5 Q 44 [some (.ref 0), some (.int x1), some (.int x2), some (.int r)] (rv.toList ++ []) M') 0 [some (.ref 9), some (.int r), none, none] [] M)
    (h2 : r = (-9) → Q (some (.int (-2))) M) :
    WX mi_C_lifts 5 Q 26 [some (.ref 0), some (.int x1), some (.int x2), none] [.int r] M := by
  refine WX.run (pc' := 30) (L' := [some (.ref 0), some (.int x1), some (.int x2), some (.int r)]) (st' := [.int (-9), .int r]) (M' := M) (P := True) 3 rfl trivial ?_
  refine WX.icmp_ne (off := 6) (tgt := 36) rfl rfl (fun c1 => ?_) (fun c1 => ?_)
  · refine WX.run (pc' := 41) (L' := [some (.ref 0), some (.int x1), some (.int x2), some (.int r)]) (st' := [.int r, .ref 9]) (M' := M) (P := True) 3 rfl trivial ?_
    refine WX.callV (ca := mi_G_lift) (n := 1) (d' := 4) (st := []) (As := [.int r]) (q := 9) rfl lk_6_130 ck_G_lift cv_G_lift rfl (by decide) rfl (Nat.le_of_ble_eq_true rfl) ⟨by decide, rfl, by decide⟩ (by intro w hw; simp only [List.mem_cons, List.not_mem_nil, or_false] at hw; rcases hw with rfl <;> rfl) (Nat.le_of_ble_eq_true rfl) ?_
    exact (h1 c1)
  · refine WX.run (pc' := 35) (L' := [some (.ref 0), some (.int x1), some (.int x2), some (.int r)]) (st' := [.int (-2)]) (M' := M) (P := True) 1 rfl trivial ?_
    exact WX.iret rfl rfl (h2 c1)
theorem sg_C_lifts_0_44 {Q : Option Value → Mem → Prop} (M : Mem) (x1 x2 x3 r : Int32)
    (h1 : Q (some (.int r)) M) :
    WX mi_C_lifts 5 Q 44 [some (.ref 0), some (.int x1), some (.int x2), some (.int x3)] [.int r] M := by
  exact WX.iret rfl rfl h1
theorem sg_C_raises_0_0 {Q : Option Value → Mem → Prop} (M : Mem) (x1 x2 x3 : Int32)
    (h1 : (z_L_has_6 M x1 x2) = 0 → Q (some (.int (-1))) M)
    (h2 : ¬ (z_L_has_6 M x1 x2) = 0 → x3 < 0 → Q (some (.int (-1))) M)
    (h3 : ¬ (z_L_has_6 M x1 x2) = 0 → ¬ x3 < 0 → x3 ≤ 9 → ¬ (z_C_holds (M.1 6 4) (z_C_numberOf x1 x2)) = 0 → Q (some (.int (-2))) M)
    (b4 : ¬ (z_L_has_6 M x1 x2) = 0 → ¬ x3 < 0 → x3 ≤ 9 → (z_C_holds (M.1 6 4) (z_C_numberOf x1 x2)) = 0 → vp_in (z_C_numberOf x1 x2) 16)
    (h5 : ¬ (z_L_has_6 M x1 x2) = 0 → ¬ x3 < 0 → x3 ≤ 9 → (z_C_holds (M.1 6 4) (z_C_numberOf x1 x2)) = 0 → ¬ (M.1 10 (z_C_numberOf x1 x2).toNatClampNeg) = x3 → WX mi_G_raise 3 (fun rv M' => WX mi_C_raises 4 Q 72 [some (.ref 0), some (.int x1), some (.int x2), some (.int x3), some (.int (z_C_numberOf x1 x2))] (rv.toList ++ []) M') 0 [some (.ref 9), some (.int (z_C_numberOf x1 x2)), some (.int x3), none] [] M)
    (h6 : ¬ (z_L_has_6 M x1 x2) = 0 → ¬ x3 < 0 → x3 ≤ 9 → (z_C_holds (M.1 6 4) (z_C_numberOf x1 x2)) = 0 → (M.1 10 (z_C_numberOf x1 x2).toNatClampNeg) = x3 → Q (some (.int (-2))) M)
    (h7 : ¬ (z_L_has_6 M x1 x2) = 0 → ¬ x3 < 0 → ¬ x3 ≤ 9 → Q (some (.int (-1))) M) :
    WX mi_C_raises 4 Q 0 [some (.ref 0), some (.int x1), some (.int x2), some (.int x3), none] [] M := by
  refine WX.run (pc' := 6) (L' := [some (.ref 0), some (.int x1), some (.int x2), some (.int x3), none]) (st' := [.int x2, .int x1, .ref 6]) (M' := M) (P := True) 4 rfl trivial ?_
  refine WX.callV (ca := mi_L_has) (n := 2) (d' := 1) (st := []) (As := [.int x1, .int x2]) (q := 6) rfl lk_6_88 ck_L_has cv_L_has rfl (by decide) rfl (Nat.le_of_ble_eq_true rfl) ⟨by decide, rfl, by decide⟩ (by intro w hw; simp only [List.mem_cons, List.not_mem_nil, or_false] at hw; rcases hw with rfl | rfl <;> rfl) (Nat.le_of_ble_eq_true rfl) ?_
  refine wx_L_has_6 M x1 x2 ?_
  show WX mi_C_raises 4 Q 9 [some (.ref 0), some (.int x1), some (.int x2), some (.int x3), none] [.int (z_L_has_6 M x1 x2)] M
  refine WX.if_eq (off := 13) (tgt := 22) rfl rfl (fun c1 => ?_) (fun c1 => ?_)
  · refine WX.run (pc' := 23) (L' := [some (.ref 0), some (.int x1), some (.int x2), some (.int x3), none]) (st' := [.int (-1)]) (M' := M) (P := True) 1 rfl trivial ?_
    exact WX.iret rfl rfl (h1 c1)
  · refine WX.run (pc' := 13) (L' := [some (.ref 0), some (.int x1), some (.int x2), some (.int x3), none]) (st' := [.int x3]) (M' := M) (P := True) 1 rfl trivial ?_
    refine WX.if_lt (off := 9) (tgt := 22) rfl rfl (fun c2 => ?_) (fun c2 => ?_)
    · refine WX.run (pc' := 23) (L' := [some (.ref 0), some (.int x1), some (.int x2), some (.int x3), none]) (st' := [.int (-1)]) (M' := M) (P := True) 1 rfl trivial ?_
      exact WX.iret rfl rfl (h2 c1 c2)
    · refine WX.run (pc' := 19) (L' := [some (.ref 0), some (.int x1), some (.int x2), some (.int x3), none]) (st' := [.int 9, .int x3]) (M' := M) (P := True) 2 rfl trivial ?_
      refine WX.icmp_le (off := 5) (tgt := 24) rfl rfl (fun c3 => ?_) (fun c3 => ?_)
      · refine WX.run (pc' := 26) (L' := [some (.ref 0), some (.int x1), some (.int x2), some (.int x3), none]) (st' := [.int x2, .int x1]) (M' := M) (P := True) 2 rfl trivial ?_
        refine WX.callS (ca := mi_C_numberOf) (n := 2) (d' := 1) (st := []) (As := [.int x1, .int x2]) rfl lk_6_92 ck_C_numberOf cs_C_numberOf rfl (by decide) rfl (Nat.le_of_ble_eq_true rfl) (by intro w hw; simp only [List.mem_cons, List.not_mem_nil, or_false] at hw; rcases hw with rfl | rfl <;> rfl) (Nat.le_of_ble_eq_true rfl) ?_
        refine wx_C_numberOf M x1 x2 ?_
        show WX mi_C_raises 4 Q 29 [some (.ref 0), some (.int x1), some (.int x2), some (.int x3), none] [.int (z_C_numberOf x1 x2)] M
        refine WX.run (pc' := 40) (L' := [some (.ref 0), some (.int x1), some (.int x2), some (.int x3), some (.int (z_C_numberOf x1 x2))]) (st' := [.int (z_C_numberOf x1 x2), .int (M.1 6 4)]) (M' := M) (P := True) 5 rfl trivial ?_
        refine WX.callS (ca := mi_C_holds) (n := 2) (d' := 1) (st := []) (As := [.int (M.1 6 4), .int (z_C_numberOf x1 x2)]) rfl lk_6_136 ck_C_holds cs_C_holds rfl (by decide) rfl (Nat.le_of_ble_eq_true rfl) (by intro w hw; simp only [List.mem_cons, List.not_mem_nil, or_false] at hw; rcases hw with rfl | rfl <;> rfl) (Nat.le_of_ble_eq_true rfl) ?_
        refine wx_C_holds M (M.1 6 4) (z_C_numberOf x1 x2) ?_
        show WX mi_C_raises 4 Q 43 [some (.ref 0), some (.int x1), some (.int x2), some (.int x3), some (.int (z_C_numberOf x1 x2))] [.int (z_C_holds (M.1 6 4) (z_C_numberOf x1 x2))] M
        refine WX.if_ne (off := 16) (tgt := 59) rfl rfl (fun c4 => ?_) (fun c4 => ?_)
        · refine WX.run (pc' := 61) (L' := [some (.ref 0), some (.int x1), some (.int x2), some (.int x3), some (.int (z_C_numberOf x1 x2))]) (st' := [.int (-2)]) (M' := M) (P := True) 1 rfl trivial ?_
          exact WX.iret rfl rfl (h3 c1 c2 c3 c4)
        · refine WX.run (pc' := 52) (L' := [some (.ref 0), some (.int x1), some (.int x2), some (.int x3), some (.int (z_C_numberOf x1 x2))]) (st' := [.int (z_C_numberOf x1 x2), .ref 9]) (M' := M) (P := True) 3 rfl trivial ?_
          refine WX.callV (ca := mi_G_heightOf) (n := 1) (d' := 2) (st := []) (As := [.int (z_C_numberOf x1 x2)]) (q := 9) rfl lk_6_100 ck_G_heightOf cv_G_heightOf rfl (by decide) rfl (Nat.le_of_ble_eq_true rfl) ⟨by decide, rfl, by decide⟩ (by intro w hw; simp only [List.mem_cons, List.not_mem_nil, or_false] at hw; rcases hw with rfl <;> rfl) (Nat.le_of_ble_eq_true rfl) ?_
          refine wx_G_heightOf_9b M (z_C_numberOf x1 x2) (b4 c1 c2 c3 c4) ?_
          show WX mi_C_raises 4 Q 55 [some (.ref 0), some (.int x1), some (.int x2), some (.int x3), some (.int (z_C_numberOf x1 x2))] [.int (M.1 10 (z_C_numberOf x1 x2).toNatClampNeg)] M
          refine WX.run (pc' := 56) (L' := [some (.ref 0), some (.int x1), some (.int x2), some (.int x3), some (.int (z_C_numberOf x1 x2))]) (st' := [.int x3, .int (M.1 10 (z_C_numberOf x1 x2).toNatClampNeg)]) (M' := M) (P := True) 1 rfl trivial ?_
          refine WX.icmp_ne (off := 6) (tgt := 62) rfl rfl (fun c5 => ?_) (fun c5 => ?_)
          · refine WX.run (pc' := 69) (L' := [some (.ref 0), some (.int x1), some (.int x2), some (.int x3), some (.int (z_C_numberOf x1 x2))]) (st' := [.int x3, .int (z_C_numberOf x1 x2), .ref 9]) (M' := M) (P := True) 4 rfl trivial ?_
            refine WX.callV (ca := mi_G_raise) (n := 2) (d' := 3) (st := []) (As := [.int (z_C_numberOf x1 x2), .int x3]) (q := 9) rfl lk_6_139 ck_G_raise cv_G_raise rfl (by decide) rfl (Nat.le_of_ble_eq_true rfl) ⟨by decide, rfl, by decide⟩ (by intro w hw; simp only [List.mem_cons, List.not_mem_nil, or_false] at hw; rcases hw with rfl | rfl <;> rfl) (Nat.le_of_ble_eq_true rfl) ?_
            exact (h5 c1 c2 c3 c4 c5)
          · refine WX.run (pc' := 61) (L' := [some (.ref 0), some (.int x1), some (.int x2), some (.int x3), some (.int (z_C_numberOf x1 x2))]) (st' := [.int (-2)]) (M' := M) (P := True) 1 rfl trivial ?_
            exact WX.iret rfl rfl (h6 c1 c2 c3 c4 c5)
      · refine WX.run (pc' := 23) (L' := [some (.ref 0), some (.int x1), some (.int x2), some (.int x3), none]) (st' := [.int (-1)]) (M' := M) (P := True) 1 rfl trivial ?_
        exact WX.iret rfl rfl (h7 c1 c2 c3)
theorem sg_C_raises_0_72 {Q : Option Value → Mem → Prop} (M : Mem) (x1 x2 x3 x4 r : Int32)
    (h1 : Q (some (.int r)) M) :
    WX mi_C_raises 4 Q 72 [some (.ref 0), some (.int x1), some (.int x2), some (.int x3), some (.int x4)] [.int r] M := by
  exact WX.iret rfl rfl h1
theorem sg_C_day_0_0 {Q : Option Value → Mem → Prop} (M : Mem)
    (h1 : (M.1 9 4) < 99 → WX mi_G_passDay 2 (fun rv M' => WX mi_C_day 3 Q 22 [some (.ref 0)] (rv.toList ++ []) M') 0 [some (.ref 9)] [] M)
    (h2 : ¬ (M.1 9 4) < 99 → Q (some (.int (-2))) M) :
    WX mi_C_day 3 Q 0 [some (.ref 0)] [] M := by
  refine WX.run (pc' := 9) (L' := [some (.ref 0)]) (st' := [.int 99, .int (M.1 9 4)]) (M' := M) (P := True) 4 rfl trivial ?_
  refine WX.icmp_lt (off := 6) (tgt := 15) rfl rfl (fun c1 => ?_) (fun c1 => ?_)
  · refine WX.run (pc' := 19) (L' := [some (.ref 0)]) (st' := [.ref 9]) (M' := M) (P := True) 2 rfl trivial ?_
    refine WX.callV (ca := mi_G_passDay) (n := 0) (d' := 2) (st := []) (As := []) (q := 9) rfl lk_6_145 ck_G_passDay cv_G_passDay rfl (by decide) rfl (Nat.le_of_ble_eq_true rfl) ⟨by decide, rfl, by decide⟩ (fun w hw => absurd hw List.not_mem_nil) (Nat.le_of_ble_eq_true rfl) ?_
    exact (h1 c1)
  · refine WX.run (pc' := 14) (L' := [some (.ref 0)]) (st' := [.int (-2)]) (M' := M) (P := True) 1 rfl trivial ?_
    exact WX.iret rfl rfl (h2 c1)
theorem sg_C_day_0_22 {Q : Option Value → Mem → Prop} (M : Mem)
    (h1 : Q (some (.int (M.1 9 4))) M) :
    WX mi_C_day 3 Q 22 [some (.ref 0)] [] M := by
  refine WX.run (pc' := 29) (L' := [some (.ref 0)]) (st' := [.int (M.1 9 4)]) (M' := M) (P := True) 3 rfl trivial ?_
  exact WX.iret rfl rfl h1
theorem sg_C_undo_0_0 {Q : Option Value → Mem → Prop} (M : Mem)
    (h1 : WX mi_G_goBack 4 (fun rv M' => WX mi_C_undo 5 Q 7 [some (.ref 0)] (rv.toList ++ []) M') 0 [some (.ref 9), none, none] [] M) :
    WX mi_C_undo 5 Q 0 [some (.ref 0)] [] M := by
  refine WX.run (pc' := 4) (L' := [some (.ref 0)]) (st' := [.ref 9]) (M' := M) (P := True) 2 rfl trivial ?_
  refine WX.callV (ca := mi_G_goBack) (n := 0) (d' := 4) (st := []) (As := []) (q := 9) rfl lk_6_148 ck_G_goBack cv_G_goBack rfl (by decide) rfl (Nat.le_of_ble_eq_true rfl) ⟨by decide, rfl, by decide⟩ (fun w hw => absurd hw List.not_mem_nil) (Nat.le_of_ble_eq_true rfl) ?_
  exact h1
theorem sg_C_undo_0_7 {Q : Option Value → Mem → Prop} (M : Mem) (r : Int32)
    (h1 : r = 0 → Q (some (.int (-2))) M)
    (h2 : ¬ r = 0 → Q (some (.int (M.1 9 8))) M) :
    WX mi_C_undo 5 Q 7 [some (.ref 0)] [.int r] M := by
  refine WX.if_eq (off := 13) (tgt := 20) rfl rfl (fun c1 => ?_) (fun c1 => ?_)
  · refine WX.run (pc' := 22) (L' := [some (.ref 0)]) (st' := [.int (-2)]) (M' := M) (P := True) 1 rfl trivial ?_
    exact WX.iret rfl rfl (h1 c1)
  · refine WX.run (pc' := 22) (L' := [some (.ref 0)]) (st' := [.int (M.1 9 8)]) (M' := M) (P := True) 4 rfl trivial ?_
    exact WX.iret rfl rfl (h2 c1)
theorem sg_C_now_0_0 {Q : Option Value → Mem → Prop} (M : Mem) (x1 : Int32)
    (h1 : x1 = 0 → Q (some (.int (M.1 9 4))) M)
    (h2 : x1 = 1 → WX mi_C_freeCells 4 (fun rv M' => WX mi_C_now 5 Q 60 [some (.ref 0), some (.int x1)] (rv.toList ++ []) M') 0 [some (.ref 0)] [] M)
    (h3 : x1 = 2 → WX mi_G_slabCount 1 (fun rv M' => WX mi_C_now 5 Q 68 [some (.ref 0), some (.int x1)] (rv.toList ++ []) M') 0 [some (.ref 9), none, none] [] M)
    (h4 : x1 = 3 → WX mi_W_fill 3 (fun rv M' => WX mi_C_now 5 Q 84 [some (.ref 0), some (.int x1)] (rv.toList ++ []) M') 0 [some (.ref 30), some (.ref 6), some (.ref 9), none, none, none] [] M)
    (h5 : x1 = 4 → WX mi_G_covered 3 (fun rv M' => WX mi_C_now 5 Q 99 [some (.ref 0), some (.int x1)] (rv.toList ++ []) M') 0 [some (.ref 9)] [] M)
    (h6 : x1 = 5 → WX mi_G_covered 3 (fun rv M' => WX mi_C_now 5 Q 133 [some (.ref 0), some (.int x1)] (rv.toList ++ []) M') 0 [some (.ref 9)] [] M)
    (h7 : x1 = 6 → WX mi_G_alikePairs 4 (fun rv M' => WX mi_C_now 5 Q 164 [some (.ref 0), some (.int x1)] (rv.toList ++ []) M') 0 [some (.ref 9), none, none, none, none] [] M)
    (h8 : x1 = 7 → WX mi_G_todaysCells 4 (fun rv M' => WX mi_C_now 5 Q 172 [some (.ref 0), some (.int x1)] (rv.toList ++ []) M') 0 [some (.ref 9), none, none] [] M)
    (h9 : ¬ x1 = 0 → ¬ x1 = 1 → ¬ x1 = 2 → ¬ x1 = 3 → ¬ x1 = 4 → ¬ x1 = 5 → ¬ x1 = 6 → ¬ x1 = 7 → Q (some (.int (-1))) M) :
    WX mi_C_now 5 Q 0 [some (.ref 0), some (.int x1)] [] M := by
  refine WX.run (pc' := 1) (L' := [some (.ref 0), some (.int x1)]) (st' := [.int x1]) (M' := M) (P := True) 1 rfl trivial ?_
  by_cases c1 : x1 = 0
  · refine WX.tsw (tgt := 48) rfl (by decide) (by rw [c1]; decide) ?_
    refine WX.run (pc' := 55) (L' := [some (.ref 0), some (.int x1)]) (st' := [.int (M.1 9 4)]) (M' := M) (P := True) 3 rfl trivial ?_
    exact WX.iret rfl rfl (h1 c1)
  · skip
    by_cases c2 : x1 = 1
    · refine WX.tsw (tgt := 56) rfl (by decide) (by rw [c2]; decide) ?_
      refine WX.run (pc' := 57) (L' := [some (.ref 0), some (.int x1)]) (st' := [.ref 0]) (M' := M) (P := True) 1 rfl trivial ?_
      refine WX.callV (ca := mi_C_freeCells) (n := 0) (d' := 4) (st := []) (As := []) (q := 0) rfl lk_6_119 ck_C_freeCells cv_C_freeCells rfl (by decide) rfl (Nat.le_of_ble_eq_true rfl) ⟨by decide, rfl, by decide⟩ (fun w hw => absurd hw List.not_mem_nil) (Nat.le_of_ble_eq_true rfl) ?_
      exact (h2 c2)
    · skip
      by_cases c3 : x1 = 2
      · refine WX.tsw (tgt := 61) rfl (by decide) (by rw [c3]; decide) ?_
        refine WX.run (pc' := 65) (L' := [some (.ref 0), some (.int x1)]) (st' := [.ref 9]) (M' := M) (P := True) 2 rfl trivial ?_
        refine WX.callV (ca := mi_G_slabCount) (n := 0) (d' := 1) (st := []) (As := []) (q := 9) rfl lk_6_155 ck_G_slabCount cv_G_slabCount rfl (by decide) rfl (Nat.le_of_ble_eq_true rfl) ⟨by decide, rfl, by decide⟩ (fun w hw => absurd hw List.not_mem_nil) (Nat.le_of_ble_eq_true rfl) ?_
        exact (h3 c3)
      · skip
        by_cases c4 : x1 = 3
        · refine WX.tsw (tgt := 69) rfl (by decide) (by rw [c4]; decide) ?_
          refine WX.run (pc' := 81) (L' := [some (.ref 0), some (.int x1)]) (st' := [.ref 9, .ref 6, .ref 30]) (M' := M) (P := True) 6 rfl trivial ?_
          refine WX.callV (ca := mi_W_fill) (n := 2) (d' := 3) (st := []) (As := [.ref 6, .ref 9]) (q := 30) rfl lk_6_158 ck_W_fill cv_W_fill rfl (by decide) rfl (Nat.le_of_ble_eq_true rfl) ⟨by decide, rfl, by decide⟩ (by intro w hw; simp only [List.mem_cons, List.not_mem_nil, or_false] at hw; rcases hw with rfl | rfl <;> rfl) (Nat.le_of_ble_eq_true rfl) ?_
          exact (h4 c4)
        · skip
          by_cases c5 : x1 = 4
          · refine WX.tsw (tgt := 92) rfl (by decide) (by rw [c5]; decide) ?_
            refine WX.run (pc' := 96) (L' := [some (.ref 0), some (.int x1)]) (st' := [.ref 9]) (M' := M) (P := True) 2 rfl trivial ?_
            refine WX.callV (ca := mi_G_covered) (n := 0) (d' := 3) (st := []) (As := []) (q := 9) rfl lk_6_165 ck_G_covered cv_G_covered rfl (by decide) rfl (Nat.le_of_ble_eq_true rfl) ⟨by decide, rfl, by decide⟩ (fun w hw => absurd hw List.not_mem_nil) (Nat.le_of_ble_eq_true rfl) ?_
            exact (h5 c5)
          · skip
            by_cases c6 : x1 = 5
            · refine WX.tsw (tgt := 126) rfl (by decide) (by rw [c6]; decide) ?_
              refine WX.run (pc' := 130) (L' := [some (.ref 0), some (.int x1)]) (st' := [.ref 9]) (M' := M) (P := True) 2 rfl trivial ?_
              refine WX.callV (ca := mi_G_covered) (n := 0) (d' := 3) (st := []) (As := []) (q := 9) rfl lk_6_165 ck_G_covered cv_G_covered rfl (by decide) rfl (Nat.le_of_ble_eq_true rfl) ⟨by decide, rfl, by decide⟩ (fun w hw => absurd hw List.not_mem_nil) (Nat.le_of_ble_eq_true rfl) ?_
              exact (h6 c6)
            · skip
              by_cases c7 : x1 = 6
              · refine WX.tsw (tgt := 157) rfl (by decide) (by rw [c7]; decide) ?_
                refine WX.run (pc' := 161) (L' := [some (.ref 0), some (.int x1)]) (st' := [.ref 9]) (M' := M) (P := True) 2 rfl trivial ?_
                refine WX.callV (ca := mi_G_alikePairs) (n := 0) (d' := 4) (st := []) (As := []) (q := 9) rfl lk_6_190 ck_G_alikePairs cv_G_alikePairs rfl (by decide) rfl (Nat.le_of_ble_eq_true rfl) ⟨by decide, rfl, by decide⟩ (fun w hw => absurd hw List.not_mem_nil) (Nat.le_of_ble_eq_true rfl) ?_
                exact (h7 c7)
              · skip
                by_cases c8 : x1 = 7
                · refine WX.tsw (tgt := 165) rfl (by decide) (by rw [c8]; decide) ?_
                  refine WX.run (pc' := 169) (L' := [some (.ref 0), some (.int x1)]) (st' := [.ref 9]) (M' := M) (P := True) 2 rfl trivial ?_
                  refine WX.callV (ca := mi_G_todaysCells) (n := 0) (d' := 4) (st := []) (As := []) (q := 9) rfl lk_6_193 ck_G_todaysCells cv_G_todaysCells rfl (by decide) rfl (Nat.le_of_ble_eq_true rfl) ⟨by decide, rfl, by decide⟩ (fun w hw => absurd hw List.not_mem_nil) (Nat.le_of_ble_eq_true rfl) ?_
                  exact (h8 c8)
                · skip
                  refine WX.tsw (tgt := 173) rfl (by decide) (by
                        by_cases hr : (x1).toInt < 0 ∨ 7 < (x1).toInt
                        · unfold tswo; rw [if_pos hr]; rfl
                        · have hh : (x1).toInt = 0 ∨ (x1).toInt = 1 ∨ (x1).toInt = 2 ∨ (x1).toInt = 3 ∨ (x1).toInt = 4 ∨ (x1).toInt = 5 ∨ (x1).toInt = 6 ∨ (x1).toInt = 7 := by omega
                          rcases hh with hh | hh | hh | hh | hh | hh | hh | hh
                          · exact absurd hh (i32_ne c1 (by decide))
                          · exact absurd hh (i32_ne c2 (by decide))
                          · exact absurd hh (i32_ne c3 (by decide))
                          · exact absurd hh (i32_ne c4 (by decide))
                          · exact absurd hh (i32_ne c5 (by decide))
                          · exact absurd hh (i32_ne c6 (by decide))
                          · exact absurd hh (i32_ne c7 (by decide))
                          · exact absurd hh (i32_ne c8 (by decide))) ?_
                  refine WX.run (pc' := 174) (L' := [some (.ref 0), some (.int x1)]) (st' := [.int (-1)]) (M' := M) (P := True) 1 rfl trivial ?_
                  exact WX.iret rfl rfl (h9 c1 c2 c3 c4 c5 c6 c7 c8)
theorem sg_C_now_0_60 {Q : Option Value → Mem → Prop} (M : Mem) (x1 r : Int32)
    (h1 : Q (some (.int r)) M) :
    WX mi_C_now 5 Q 60 [some (.ref 0), some (.int x1)] [.int r] M := by
  exact WX.iret rfl rfl h1
theorem sg_C_now_0_68 {Q : Option Value → Mem → Prop} (M : Mem) (x1 r : Int32)
    (h1 : Q (some (.int r)) M) :
    WX mi_C_now 5 Q 68 [some (.ref 0), some (.int x1)] [.int r] M := by
  exact WX.iret rfl rfl h1
theorem sg_C_now_0_84 {Q : Option Value → Mem → Prop} (M : Mem) (x1 : Int32)
    (h1 : WX mi_W_puddles 2 (fun rv M' => WX mi_C_now 5 Q 91 [some (.ref 0), some (.int x1)] (rv.toList ++ []) M') 0 [some (.ref 30), none, none, none] [] M) :
    WX mi_C_now 5 Q 84 [some (.ref 0), some (.int x1)] [] M := by
  refine WX.run (pc' := 88) (L' := [some (.ref 0), some (.int x1)]) (st' := [.ref 30]) (M' := M) (P := True) 2 rfl trivial ?_
  refine WX.callV (ca := mi_W_puddles) (n := 0) (d' := 2) (st := []) (As := []) (q := 30) rfl lk_6_162 ck_W_puddles cv_W_puddles rfl (by decide) rfl (Nat.le_of_ble_eq_true rfl) ⟨by decide, rfl, by decide⟩ (fun w hw => absurd hw List.not_mem_nil) (Nat.le_of_ble_eq_true rfl) ?_
  exact h1
theorem sg_C_now_0_99 {Q : Option Value → Mem → Prop} (M : Mem) (x1 r : Int32)
    (h1 : WX mi_G_joined 2 (fun rv M' => WX mi_C_now 5 Q 109 [some (.ref 0), some (.int x1)] (rv.toList ++ [.int r]) M') 0 [some (.ref 9), some (.ref 102), none, none] [] M) :
    WX mi_C_now 5 Q 99 [some (.ref 0), some (.int x1)] [.int r] M := by
  refine WX.run (pc' := 106) (L' := [some (.ref 0), some (.int x1)]) (st' := [.ref 102, .ref 9, .int r]) (M' := M) (P := True) 3 rfl trivial ?_
  refine WX.callV (ca := mi_G_joined) (n := 1) (d' := 2) (st := [.int r]) (As := [.ref 102]) (q := 9) rfl lk_6_171 ck_G_joined cv_G_joined rfl (by decide) rfl (Nat.le_of_ble_eq_true rfl) ⟨by decide, rfl, by decide⟩ (by intro w hw; simp only [List.mem_cons, List.not_mem_nil, or_false] at hw; rcases hw with rfl <;> rfl) (Nat.le_of_ble_eq_true rfl) ?_
  exact h1
theorem sg_C_now_0_133 {Q : Option Value → Mem → Prop} (M : Mem) (x1 r : Int32)
    (h1 : WX mi_G_joined 2 (fun rv M' => WX mi_C_now 5 Q 143 [some (.ref 0), some (.int x1)] (rv.toList ++ [.int r]) M') 0 [some (.ref 9), some (.ref 102), none, none] [] M) :
    WX mi_C_now 5 Q 133 [some (.ref 0), some (.int x1)] [.int r] M := by
  refine WX.run (pc' := 140) (L' := [some (.ref 0), some (.int x1)]) (st' := [.ref 102, .ref 9, .int r]) (M' := M) (P := True) 3 rfl trivial ?_
  refine WX.callV (ca := mi_G_joined) (n := 1) (d' := 2) (st := [.int r]) (As := [.ref 102]) (q := 9) rfl lk_6_171 ck_G_joined cv_G_joined rfl (by decide) rfl (Nat.le_of_ble_eq_true rfl) ⟨by decide, rfl, by decide⟩ (by intro w hw; simp only [List.mem_cons, List.not_mem_nil, or_false] at hw; rcases hw with rfl <;> rfl) (Nat.le_of_ble_eq_true rfl) ?_
  exact h1
theorem sg_C_now_0_164 {Q : Option Value → Mem → Prop} (M : Mem) (x1 r : Int32)
    (h1 : Q (some (.int r)) M) :
    WX mi_C_now 5 Q 164 [some (.ref 0), some (.int x1)] [.int r] M := by
  exact WX.iret rfl rfl h1
theorem sg_C_now_0_172 {Q : Option Value → Mem → Prop} (M : Mem) (x1 r : Int32)
    (h1 : Q (some (.int r)) M) :
    WX mi_C_now 5 Q 172 [some (.ref 0), some (.int x1)] [.int r] M := by
  exact WX.iret rfl rfl h1
theorem sg_C_now_0_91 {Q : Option Value → Mem → Prop} (M : Mem) (x1 r : Int32)
    (h1 : Q (some (.int r)) M) :
    WX mi_C_now 5 Q 91 [some (.ref 0), some (.int x1)] [.int r] M := by
  exact WX.iret rfl rfl h1
theorem sg_C_now_0_109 {Q : Option Value → Mem → Prop} (M : Mem) (x1 r s1 : Int32)
    (h1 : WX mi_G_joined 2 (fun rv M' => WX mi_C_now 5 Q 119 [some (.ref 0), some (.int x1)] (rv.toList ++ [.int r, .int s1]) M') 0 [some (.ref 9), some (.ref 103), none, none] [] M) :
    WX mi_C_now 5 Q 109 [some (.ref 0), some (.int x1)] [.int r, .int s1] M := by
  refine WX.run (pc' := 116) (L' := [some (.ref 0), some (.int x1)]) (st' := [.ref 103, .ref 9, .int r, .int s1]) (M' := M) (P := True) 3 rfl trivial ?_
  refine WX.callV (ca := mi_G_joined) (n := 1) (d' := 2) (st := [.int r, .int s1]) (As := [.ref 103]) (q := 9) rfl lk_6_171 ck_G_joined cv_G_joined rfl (by decide) rfl (Nat.le_of_ble_eq_true rfl) ⟨by decide, rfl, by decide⟩ (by intro w hw; simp only [List.mem_cons, List.not_mem_nil, or_false] at hw; rcases hw with rfl <;> rfl) (Nat.le_of_ble_eq_true rfl) ?_
  exact h1
theorem sg_C_now_0_143 {Q : Option Value → Mem → Prop} (M : Mem) (x1 r s1 : Int32)
    (h1 : WX mi_G_joined 2 (fun rv M' => WX mi_C_now 5 Q 153 [some (.ref 0), some (.int x1)] (rv.toList ++ [.int r, .int s1]) M') 0 [some (.ref 9), some (.ref 103), none, none] [] M) :
    WX mi_C_now 5 Q 143 [some (.ref 0), some (.int x1)] [.int r, .int s1] M := by
  refine WX.run (pc' := 150) (L' := [some (.ref 0), some (.int x1)]) (st' := [.ref 103, .ref 9, .int r, .int s1]) (M' := M) (P := True) 3 rfl trivial ?_
  refine WX.callV (ca := mi_G_joined) (n := 1) (d' := 2) (st := [.int r, .int s1]) (As := [.ref 103]) (q := 9) rfl lk_6_171 ck_G_joined cv_G_joined rfl (by decide) rfl (Nat.le_of_ble_eq_true rfl) ⟨by decide, rfl, by decide⟩ (by intro w hw; simp only [List.mem_cons, List.not_mem_nil, or_false] at hw; rcases hw with rfl <;> rfl) (Nat.le_of_ble_eq_true rfl) ?_
  exact h1
theorem sg_C_now_0_119 {Q : Option Value → Mem → Prop} (M : Mem) (x1 r s1 s2 : Int32)
    (h1 : Q (some (.int (z_I_bitCount (z_C_crossPoints s2 s1 r)))) M) :
    WX mi_C_now 5 Q 119 [some (.ref 0), some (.int x1)] [.int r, .int s1, .int s2] M := by
  refine WX.callS (ca := mi_C_crossPoints) (n := 3) (d' := 1) (st := []) (As := [.int s2, .int s1, .int r]) rfl lk_6_178 ck_C_crossPoints cs_C_crossPoints rfl (by decide) rfl (Nat.le_of_ble_eq_true rfl) (by intro w hw; simp only [List.mem_cons, List.not_mem_nil, or_false] at hw; rcases hw with rfl | rfl | rfl <;> rfl) (Nat.le_of_ble_eq_true rfl) ?_
  refine wx_C_crossPoints M s2 s1 r ?_
  show WX mi_C_now 5 Q 122 [some (.ref 0), some (.int x1)] [.int (z_C_crossPoints s2 s1 r)] M
  refine WX.callS (ca := mi_I_bitCount) (n := 1) (d' := 1) (st := []) (As := [.int (z_C_crossPoints s2 s1 r)]) rfl lk_6_182 ck_I_bitCount cs_I_bitCount rfl (by decide) rfl (Nat.le_of_ble_eq_true rfl) (by intro w hw; simp only [List.mem_cons, List.not_mem_nil, or_false] at hw; rcases hw with rfl <;> rfl) (Nat.le_of_ble_eq_true rfl) ?_
  refine wx_I_bitCount M (z_C_crossPoints s2 s1 r) ?_
  show WX mi_C_now 5 Q 125 [some (.ref 0), some (.int x1)] [.int (z_I_bitCount (z_C_crossPoints s2 s1 r))] M
  exact WX.iret rfl rfl h1
theorem sg_C_now_0_153 {Q : Option Value → Mem → Prop} (M : Mem) (x1 r s1 s2 : Int32)
    (h1 : WX mi_C_longestSeam 1 (fun rv M' => WX mi_C_now 5 Q 156 [some (.ref 0), some (.int x1)] (rv.toList ++ []) M') 0 [some (.int s2), some (.int s1), some (.int r), none, none, none, none] [] M) :
    WX mi_C_now 5 Q 153 [some (.ref 0), some (.int x1)] [.int r, .int s1, .int s2] M := by
  refine WX.callS (ca := mi_C_longestSeam) (n := 3) (d' := 1) (st := []) (As := [.int s2, .int s1, .int r]) rfl lk_6_187 ck_C_longestSeam cs_C_longestSeam rfl (by decide) rfl (Nat.le_of_ble_eq_true rfl) (by intro w hw; simp only [List.mem_cons, List.not_mem_nil, or_false] at hw; rcases hw with rfl | rfl | rfl <;> rfl) (Nat.le_of_ble_eq_true rfl) ?_
  exact h1
theorem sg_C_now_0_156 {Q : Option Value → Mem → Prop} (M : Mem) (x1 r : Int32)
    (h1 : Q (some (.int r)) M) :
    WX mi_C_now 5 Q 156 [some (.ref 0), some (.int x1)] [.int r] M := by
  exact WX.iret rfl rfl h1
theorem sg_C_stock_0_0 {Q : Option Value → Mem → Prop} (M : Mem) (x1 : Int32)
    (h1 : (z_C_isSize x1) = 0 → Q (some (.int (-1))) M)
    (b2 : ¬ (z_C_isSize x1) = 0 → vp_in x1 4)
    (h3 : ¬ (z_C_isSize x1) = 0 → Q (some (.int (M.1 12 x1.toNatClampNeg))) M) :
    WX mi_C_stock 2 Q 0 [some (.ref 0), some (.int x1)] [] M := by
  refine WX.run (pc' := 1) (L' := [some (.ref 0), some (.int x1)]) (st' := [.int x1]) (M' := M) (P := True) 1 rfl trivial ?_
  refine WX.callS (ca := mi_C_isSize) (n := 1) (d' := 1) (st := []) (As := [.int x1]) rfl lk_6_112 ck_C_isSize cs_C_isSize rfl (by decide) rfl (Nat.le_of_ble_eq_true rfl) (by intro w hw; simp only [List.mem_cons, List.not_mem_nil, or_false] at hw; rcases hw with rfl <;> rfl) (Nat.le_of_ble_eq_true rfl) ?_
  refine wx_C_isSize M x1 ?_
  show WX mi_C_stock 2 Q 4 [some (.ref 0), some (.int x1)] [.int (z_C_isSize x1)] M
  refine WX.if_eq (off := 15) (tgt := 19) rfl rfl (fun c1 => ?_) (fun c1 => ?_)
  · refine WX.run (pc' := 20) (L' := [some (.ref 0), some (.int x1)]) (st' := [.int (-1)]) (M' := M) (P := True) 1 rfl trivial ?_
    exact WX.iret rfl rfl (h1 c1)
  · refine WX.run (pc' := 20) (L' := [some (.ref 0), some (.int x1)]) (st' := [.int (M.1 12 x1.toNatClampNeg)]) (M' := M) (P := (True ∧ vp_in x1 4)) 6 rfl ⟨trivial, (b2 c1)⟩ ?_
    exact WX.iret rfl rfl (h3 c1)
def z_C_stock_0 (M : Mem) (x1 : Int32) : Int32 := (if (z_C_isSize x1) = 0 then (-1) else (M.1 12 x1.toNatClampNeg))
theorem wx_C_stock_0 {Q : Option Value → Mem → Prop} (M : Mem) (x1 : Int32)
    (b2 : ¬ (z_C_isSize x1) = 0 → vp_in x1 4)
    (h : Q (some (.int (z_C_stock_0 M x1))) M) :
    WX mi_C_stock 2 Q 0 [some (.ref 0), some (.int x1)] [] M := by
  refine sg_C_stock_0_0 M x1
    (fun c1 => by
      unfold z_C_stock_0 at h
      rw [if_pos c1] at h
      exact h)
    b2
    (fun c1 => by
      unfold z_C_stock_0 at h
      rw [if_neg c1] at h
      exact h)
theorem sg_C_drop_0_0 {Q : Option Value → Mem → Prop} (M : Mem) (x1 x2 x3 : Int32)
    (h1 : (z_L_isOpen_6 M x1 x2) = 0 → Q (some (.int (-1))) M)
    (h2 : ¬ (z_L_isOpen_6 M x1 x2) = 0 → x3 < 0 → Q (some (.int (-1))) M)
    (h3 : ¬ (z_L_isOpen_6 M x1 x2) = 0 → ¬ x3 < 0 → x3 ≤ 1 → WX mi_W_fill 3 (fun rv M' => WX mi_C_drop 5 Q 38 [some (.ref 0), some (.int x1), some (.int x2), some (.int x3), none] (rv.toList ++ []) M') 0 [some (.ref 30), some (.ref 6), some (.ref 9), none, none, none] [] M)
    (h4 : ¬ (z_L_isOpen_6 M x1 x2) = 0 → ¬ x3 < 0 → ¬ x3 ≤ 1 → Q (some (.int (-1))) M) :
    WX mi_C_drop 5 Q 0 [some (.ref 0), some (.int x1), some (.int x2), some (.int x3), none] [] M := by
  refine WX.run (pc' := 6) (L' := [some (.ref 0), some (.int x1), some (.int x2), some (.int x3), none]) (st' := [.int x2, .int x1, .ref 6]) (M' := M) (P := True) 4 rfl trivial ?_
  refine WX.callV (ca := mi_L_isOpen) (n := 2) (d' := 2) (st := []) (As := [.int x1, .int x2]) (q := 6) rfl lk_6_196 ck_L_isOpen cv_L_isOpen rfl (by decide) rfl (Nat.le_of_ble_eq_true rfl) ⟨by decide, rfl, by decide⟩ (by intro w hw; simp only [List.mem_cons, List.not_mem_nil, or_false] at hw; rcases hw with rfl | rfl <;> rfl) (Nat.le_of_ble_eq_true rfl) ?_
  refine wx_L_isOpen_6 M x1 x2 ?_
  show WX mi_C_drop 5 Q 9 [some (.ref 0), some (.int x1), some (.int x2), some (.int x3), none] [.int (z_L_isOpen_6 M x1 x2)] M
  refine WX.if_eq (off := 12) (tgt := 21) rfl rfl (fun c1 => ?_) (fun c1 => ?_)
  · refine WX.run (pc' := 22) (L' := [some (.ref 0), some (.int x1), some (.int x2), some (.int x3), none]) (st' := [.int (-1)]) (M' := M) (P := True) 1 rfl trivial ?_
    exact WX.iret rfl rfl (h1 c1)
  · refine WX.run (pc' := 13) (L' := [some (.ref 0), some (.int x1), some (.int x2), some (.int x3), none]) (st' := [.int x3]) (M' := M) (P := True) 1 rfl trivial ?_
    refine WX.if_lt (off := 8) (tgt := 21) rfl rfl (fun c2 => ?_) (fun c2 => ?_)
    · refine WX.run (pc' := 22) (L' := [some (.ref 0), some (.int x1), some (.int x2), some (.int x3), none]) (st' := [.int (-1)]) (M' := M) (P := True) 1 rfl trivial ?_
      exact WX.iret rfl rfl (h2 c1 c2)
    · refine WX.run (pc' := 18) (L' := [some (.ref 0), some (.int x1), some (.int x2), some (.int x3), none]) (st' := [.int 1, .int x3]) (M' := M) (P := True) 2 rfl trivial ?_
      refine WX.icmp_le (off := 5) (tgt := 23) rfl rfl (fun c3 => ?_) (fun c3 => ?_)
      · refine WX.run (pc' := 35) (L' := [some (.ref 0), some (.int x1), some (.int x2), some (.int x3), none]) (st' := [.ref 9, .ref 6, .ref 30]) (M' := M) (P := True) 6 rfl trivial ?_
        refine WX.callV (ca := mi_W_fill) (n := 2) (d' := 3) (st := []) (As := [.ref 6, .ref 9]) (q := 30) rfl lk_6_158 ck_W_fill cv_W_fill rfl (by decide) rfl (Nat.le_of_ble_eq_true rfl) ⟨by decide, rfl, by decide⟩ (by intro w hw; simp only [List.mem_cons, List.not_mem_nil, or_false] at hw; rcases hw with rfl | rfl <;> rfl) (Nat.le_of_ble_eq_true rfl) ?_
        exact (h3 c1 c2 c3)
      · refine WX.run (pc' := 22) (L' := [some (.ref 0), some (.int x1), some (.int x2), some (.int x3), none]) (st' := [.int (-1)]) (M' := M) (P := True) 1 rfl trivial ?_
        exact WX.iret rfl rfl (h4 c1 c2 c3)
theorem sg_C_drop_0_38 {Q : Option Value → Mem → Prop} (M : Mem) (x1 x2 x3 : Int32)
    (h1 : ¬ x3 = 0 → WX mi_W_wayOf 4 (fun rv M' => WX mi_C_drop 5 Q 70 [some (.ref 0), some (.int x1), some (.int x2), some (.int x3), some (.int (z_C_numberOf x1 x2))] (rv.toList ++ []) M') 0 [some (.ref 30), some (.int (z_C_numberOf x1 x2)), none, none, none] [] M)
    (h2 : x3 = 0 → WX mi_W_endOf 4 (fun rv M' => WX mi_C_drop 5 Q 58 [some (.ref 0), some (.int x1), some (.int x2), some (.int x3), some (.int (z_C_numberOf x1 x2))] (rv.toList ++ []) M') 0 [some (.ref 30), some (.int (z_C_numberOf x1 x2)), none, none, none] [] M) :
    WX mi_C_drop 5 Q 38 [some (.ref 0), some (.int x1), some (.int x2), some (.int x3), none] [] M := by
  refine WX.run (pc' := 40) (L' := [some (.ref 0), some (.int x1), some (.int x2), some (.int x3), none]) (st' := [.int x2, .int x1]) (M' := M) (P := True) 2 rfl trivial ?_
  refine WX.callS (ca := mi_C_numberOf) (n := 2) (d' := 1) (st := []) (As := [.int x1, .int x2]) rfl lk_6_92 ck_C_numberOf cs_C_numberOf rfl (by decide) rfl (Nat.le_of_ble_eq_true rfl) (by intro w hw; simp only [List.mem_cons, List.not_mem_nil, or_false] at hw; rcases hw with rfl | rfl <;> rfl) (Nat.le_of_ble_eq_true rfl) ?_
  refine wx_C_numberOf M x1 x2 ?_
  show WX mi_C_drop 5 Q 43 [some (.ref 0), some (.int x1), some (.int x2), some (.int x3), none] [.int (z_C_numberOf x1 x2)] M
  refine WX.run (pc' := 46) (L' := [some (.ref 0), some (.int x1), some (.int x2), some (.int x3), some (.int (z_C_numberOf x1 x2))]) (st' := [.int x3]) (M' := M) (P := True) 2 rfl trivial ?_
  refine WX.if_ne (off := 15) (tgt := 61) rfl rfl (fun c1 => ?_) (fun c1 => ?_)
  · refine WX.run (pc' := 67) (L' := [some (.ref 0), some (.int x1), some (.int x2), some (.int x3), some (.int (z_C_numberOf x1 x2))]) (st' := [.int (z_C_numberOf x1 x2), .ref 30]) (M' := M) (P := True) 3 rfl trivial ?_
    refine WX.callV (ca := mi_W_wayOf) (n := 1) (d' := 4) (st := []) (As := [.int (z_C_numberOf x1 x2)]) (q := 30) rfl lk_6_202 ck_W_wayOf cv_W_wayOf rfl (by decide) rfl (Nat.le_of_ble_eq_true rfl) ⟨by decide, rfl, by decide⟩ (by intro w hw; simp only [List.mem_cons, List.not_mem_nil, or_false] at hw; rcases hw with rfl <;> rfl) (Nat.le_of_ble_eq_true rfl) ?_
    exact (h1 c1)
  · refine WX.run (pc' := 55) (L' := [some (.ref 0), some (.int x1), some (.int x2), some (.int x3), some (.int (z_C_numberOf x1 x2))]) (st' := [.int (z_C_numberOf x1 x2), .ref 30]) (M' := M) (P := True) 3 rfl trivial ?_
    refine WX.callV (ca := mi_W_endOf) (n := 1) (d' := 4) (st := []) (As := [.int (z_C_numberOf x1 x2)]) (q := 30) rfl lk_6_199 ck_W_endOf cv_W_endOf rfl (by decide) rfl (Nat.le_of_ble_eq_true rfl) ⟨by decide, rfl, by decide⟩ (by intro w hw; simp only [List.mem_cons, List.not_mem_nil, or_false] at hw; rcases hw with rfl <;> rfl) (Nat.le_of_ble_eq_true rfl) ?_
    exact (h2 c1)
theorem sg_C_drop_0_70 {Q : Option Value → Mem → Prop} (M : Mem) (x1 x2 x3 x4 r : Int32)
    (h1 : Q (some (.int ((z_I_bitCount r) - 1))) M) :
    WX mi_C_drop 5 Q 70 [some (.ref 0), some (.int x1), some (.int x2), some (.int x3), some (.int x4)] [.int r] M := by
  refine WX.callS (ca := mi_I_bitCount) (n := 1) (d' := 1) (st := []) (As := [.int r]) rfl lk_6_182 ck_I_bitCount cs_I_bitCount rfl (by decide) rfl (Nat.le_of_ble_eq_true rfl) (by intro w hw; simp only [List.mem_cons, List.not_mem_nil, or_false] at hw; rcases hw with rfl <;> rfl) (Nat.le_of_ble_eq_true rfl) ?_
  refine wx_I_bitCount M r ?_
  show WX mi_C_drop 5 Q 73 [some (.ref 0), some (.int x1), some (.int x2), some (.int x3), some (.int x4)] [.int (z_I_bitCount r)] M
  refine WX.run (pc' := 75) (L' := [some (.ref 0), some (.int x1), some (.int x2), some (.int x3), some (.int x4)]) (st' := [.int ((z_I_bitCount r) - 1)]) (M' := M) (P := True) 2 rfl trivial ?_
  exact WX.iret rfl rfl h1
theorem sg_C_drop_0_58 {Q : Option Value → Mem → Prop} (M : Mem) (x1 x2 x3 x4 r : Int32)
    (h1 : Q (some (.int r)) M) :
    WX mi_C_drop 5 Q 58 [some (.ref 0), some (.int x1), some (.int x2), some (.int x3), some (.int x4)] [.int r] M := by
  refine WX.run (pc' := 75) (L' := [some (.ref 0), some (.int x1), some (.int x2), some (.int x3), some (.int x4)]) (st' := [.int r]) (M' := M) (P := True) 1 rfl trivial ?_
  exact WX.iret rfl rfl h1
theorem sg_C_feeds_0_0 {Q : Option Value → Mem → Prop} (M : Mem) (x1 x2 : Int32)
    (h1 : ¬ (z_L_isOpen_6 M x1 x2) = 0 → WX mi_W_fill 3 (fun rv M' => WX mi_C_feeds 5 Q 29 [some (.ref 0), some (.int x1), some (.int x2), none, none, none, none] (rv.toList ++ []) M') 0 [some (.ref 30), some (.ref 6), some (.ref 9), none, none, none] [] M)
    (h2 : (z_L_isOpen_6 M x1 x2) = 0 → Q (some (.int (-1))) M) :
    WX mi_C_feeds 5 Q 0 [some (.ref 0), some (.int x1), some (.int x2), none, none, none, none] [] M := by
  refine WX.run (pc' := 6) (L' := [some (.ref 0), some (.int x1), some (.int x2), none, none, none, none]) (st' := [.int x2, .int x1, .ref 6]) (M' := M) (P := True) 4 rfl trivial ?_
  refine WX.callV (ca := mi_L_isOpen) (n := 2) (d' := 2) (st := []) (As := [.int x1, .int x2]) (q := 6) rfl lk_6_196 ck_L_isOpen cv_L_isOpen rfl (by decide) rfl (Nat.le_of_ble_eq_true rfl) ⟨by decide, rfl, by decide⟩ (by intro w hw; simp only [List.mem_cons, List.not_mem_nil, or_false] at hw; rcases hw with rfl | rfl <;> rfl) (Nat.le_of_ble_eq_true rfl) ?_
  refine wx_L_isOpen_6 M x1 x2 ?_
  show WX mi_C_feeds 5 Q 9 [some (.ref 0), some (.int x1), some (.int x2), none, none, none, none] [.int (z_L_isOpen_6 M x1 x2)] M
  refine WX.if_ne (off := 5) (tgt := 14) rfl rfl (fun c1 => ?_) (fun c1 => ?_)
  · refine WX.run (pc' := 26) (L' := [some (.ref 0), some (.int x1), some (.int x2), none, none, none, none]) (st' := [.ref 9, .ref 6, .ref 30]) (M' := M) (P := True) 6 rfl trivial ?_
    refine WX.callV (ca := mi_W_fill) (n := 2) (d' := 3) (st := []) (As := [.ref 6, .ref 9]) (q := 30) rfl lk_6_158 ck_W_fill cv_W_fill rfl (by decide) rfl (Nat.le_of_ble_eq_true rfl) ⟨by decide, rfl, by decide⟩ (by intro w hw; simp only [List.mem_cons, List.not_mem_nil, or_false] at hw; rcases hw with rfl | rfl <;> rfl) (Nat.le_of_ble_eq_true rfl) ?_
    exact (h1 c1)
  · refine WX.run (pc' := 13) (L' := [some (.ref 0), some (.int x1), some (.int x2), none, none, none, none]) (st' := [.int (-1)]) (M' := M) (P := True) 1 rfl trivial ?_
    exact WX.iret rfl rfl (h2 c1)
theorem sg_C_feeds_0_29 {Q : Option Value → Mem → Prop} (M : Mem) (x1 x2 : Int32)
    (h1 : WX mi_L_cells 1 (fun rv M' => WX mi_C_feeds 5 Q 42 [some (.ref 0), some (.int x1), some (.int x2), some (.int (z_C_numberOf x1 x2)), none, none, none] (rv.toList ++ []) M') 0 [some (.ref 6), none, none, none] [] M) :
    WX mi_C_feeds 5 Q 29 [some (.ref 0), some (.int x1), some (.int x2), none, none, none, none] [] M := by
  refine WX.run (pc' := 31) (L' := [some (.ref 0), some (.int x1), some (.int x2), none, none, none, none]) (st' := [.int x2, .int x1]) (M' := M) (P := True) 2 rfl trivial ?_
  refine WX.callS (ca := mi_C_numberOf) (n := 2) (d' := 1) (st := []) (As := [.int x1, .int x2]) rfl lk_6_92 ck_C_numberOf cs_C_numberOf rfl (by decide) rfl (Nat.le_of_ble_eq_true rfl) (by intro w hw; simp only [List.mem_cons, List.not_mem_nil, or_false] at hw; rcases hw with rfl | rfl <;> rfl) (Nat.le_of_ble_eq_true rfl) ?_
  refine wx_C_numberOf M x1 x2 ?_
  show WX mi_C_feeds 5 Q 34 [some (.ref 0), some (.int x1), some (.int x2), none, none, none, none] [.int (z_C_numberOf x1 x2)] M
  refine WX.run (pc' := 39) (L' := [some (.ref 0), some (.int x1), some (.int x2), some (.int (z_C_numberOf x1 x2)), none, none, none]) (st' := [.ref 6]) (M' := M) (P := True) 3 rfl trivial ?_
  refine WX.callV (ca := mi_L_cells) (n := 0) (d' := 1) (st := []) (As := []) (q := 6) rfl lk_6_205 ck_L_cells cv_L_cells rfl (by decide) rfl (Nat.le_of_ble_eq_true rfl) ⟨by decide, rfl, by decide⟩ (fun w hw => absurd hw List.not_mem_nil) (Nat.le_of_ble_eq_true rfl) ?_
  exact h1
theorem sg_C_feeds_0_42 {Q : Option Value → Mem → Prop} (M : Mem) (x1 x2 x3 r : Int32)
    (h1 : WX mi_C_feeds 5 Q 60 [some (.ref 0), some (.int x1), some (.int x2), some (.int x3), some (.int (r &&& ((M.1 6 3) ^^^ (-1)))), some (.int 0), some (.int 0)] [] M) :
    WX mi_C_feeds 5 Q 42 [some (.ref 0), some (.int x1), some (.int x2), some (.int x3), none, none, none] [.int r] M := by
  refine WX.run (pc' := 60) (L' := [some (.ref 0), some (.int x1), some (.int x2), some (.int x3), some (.int (r &&& ((M.1 6 3) ^^^ (-1)))), some (.int 0), some (.int 0)]) (st' := []) (M' := M) (P := True) 11 rfl trivial ?_
  exact h1
theorem sg_C_feeds_0_60 {Q : Option Value → Mem → Prop} (M : Mem) (x1 x2 x3 x4 x5 x6 : Int32)
    (h1 : 16 ≤ x6 → Q (some (.int x5)) M)
    (h2 : ¬ 16 ≤ x6 → (z_C_holds x4 x6) = 0 → WX mi_C_feeds 5 Q 60 [some (.ref 0), some (.int x1), some (.int x2), some (.int x3), some (.int x4), some (.int x5), some (.int (x6 + 1))] [] M)
    (h3 : ¬ 16 ≤ x6 → ¬ (z_C_holds x4 x6) = 0 → WX mi_W_endOf 4 (fun rv M' => WX mi_C_feeds 5 Q 86 [some (.ref 0), some (.int x1), some (.int x2), some (.int x3), some (.int x4), some (.int x5), some (.int x6)] (rv.toList ++ []) M') 0 [some (.ref 30), some (.int x6), none, none, none] [] M) :
    WX mi_C_feeds 5 Q 60 [some (.ref 0), some (.int x1), some (.int x2), some (.int x3), some (.int x4), some (.int x5), some (.int x6)] [] M := by
  refine WX.run (pc' := 64) (L' := [some (.ref 0), some (.int x1), some (.int x2), some (.int x3), some (.int x4), some (.int x5), some (.int x6)]) (st' := [.int 16, .int x6]) (M' := M) (P := True) 2 rfl trivial ?_
  refine WX.icmp_ge (off := 41) (tgt := 105) rfl rfl (fun c1 => ?_) (fun c1 => ?_)
  · refine WX.run (pc' := 107) (L' := [some (.ref 0), some (.int x1), some (.int x2), some (.int x3), some (.int x4), some (.int x5), some (.int x6)]) (st' := [.int x5]) (M' := M) (P := True) 1 rfl trivial ?_
    exact WX.iret rfl rfl (h1 c1)
  · refine WX.run (pc' := 71) (L' := [some (.ref 0), some (.int x1), some (.int x2), some (.int x3), some (.int x4), some (.int x5), some (.int x6)]) (st' := [.int x6, .int x4]) (M' := M) (P := True) 2 rfl trivial ?_
    refine WX.callS (ca := mi_C_holds) (n := 2) (d' := 1) (st := []) (As := [.int x4, .int x6]) rfl lk_6_136 ck_C_holds cs_C_holds rfl (by decide) rfl (Nat.le_of_ble_eq_true rfl) (by intro w hw; simp only [List.mem_cons, List.not_mem_nil, or_false] at hw; rcases hw with rfl | rfl <;> rfl) (Nat.le_of_ble_eq_true rfl) ?_
    refine wx_C_holds M x4 x6 ?_
    show WX mi_C_feeds 5 Q 74 [some (.ref 0), some (.int x1), some (.int x2), some (.int x3), some (.int x4), some (.int x5), some (.int x6)] [.int (z_C_holds x4 x6)] M
    refine WX.if_eq (off := 25) (tgt := 99) rfl rfl (fun c2 => ?_) (fun c2 => ?_)
    · refine WX.run (pc' := 60) (L' := [some (.ref 0), some (.int x1), some (.int x2), some (.int x3), some (.int x4), some (.int x5), some (.int (x6 + 1))]) (st' := []) (M' := M) (P := True) 2 rfl trivial ?_
      exact (h2 c1 c2)
    · refine WX.run (pc' := 83) (L' := [some (.ref 0), some (.int x1), some (.int x2), some (.int x3), some (.int x4), some (.int x5), some (.int x6)]) (st' := [.int x6, .ref 30]) (M' := M) (P := True) 3 rfl trivial ?_
      refine WX.callV (ca := mi_W_endOf) (n := 1) (d' := 4) (st := []) (As := [.int x6]) (q := 30) rfl lk_6_199 ck_W_endOf cv_W_endOf rfl (by decide) rfl (Nat.le_of_ble_eq_true rfl) ⟨by decide, rfl, by decide⟩ (by intro w hw; simp only [List.mem_cons, List.not_mem_nil, or_false] at hw; rcases hw with rfl <;> rfl) (Nat.le_of_ble_eq_true rfl) ?_
      exact (h3 c1 c2)
theorem sg_C_feeds_0_86 {Q : Option Value → Mem → Prop} (M : Mem) (x1 x2 x3 x4 x5 x6 r : Int32)
    (h1 : ¬ r = x3 → WX mi_C_feeds 5 Q 60 [some (.ref 0), some (.int x1), some (.int x2), some (.int x3), some (.int x4), some (.int x5), some (.int (x6 + 1))] [] M)
    (h2 : r = x3 → WX mi_C_feeds 5 Q 60 [some (.ref 0), some (.int x1), some (.int x2), some (.int x3), some (.int x4), some (.int (x5 ||| (shl 1 x6))), some (.int (x6 + 1))] [] M) :
    WX mi_C_feeds 5 Q 86 [some (.ref 0), some (.int x1), some (.int x2), some (.int x3), some (.int x4), some (.int x5), some (.int x6)] [.int r] M := by
  refine WX.run (pc' := 87) (L' := [some (.ref 0), some (.int x1), some (.int x2), some (.int x3), some (.int x4), some (.int x5), some (.int x6)]) (st' := [.int x3, .int r]) (M' := M) (P := True) 1 rfl trivial ?_
  refine WX.icmp_ne (off := 12) (tgt := 99) rfl rfl (fun c1 => ?_) (fun c1 => ?_)
  · refine WX.run (pc' := 60) (L' := [some (.ref 0), some (.int x1), some (.int x2), some (.int x3), some (.int x4), some (.int x5), some (.int (x6 + 1))]) (st' := []) (M' := M) (P := True) 2 rfl trivial ?_
    exact (h1 c1)
  · refine WX.run (pc' := 60) (L' := [some (.ref 0), some (.int x1), some (.int x2), some (.int x3), some (.int x4), some (.int (x5 ||| (shl 1 x6))), some (.int (x6 + 1))]) (st' := []) (M' := M) (P := True) 8 rfl trivial ?_
    exact (h2 c1)
theorem sg_C_mend_0_0 {Q : Option Value → Mem → Prop} (M : Mem) (x1 : Int32)
    (h1 : x1 < 0 → Q (some (.int (-1))) M)
    (h2 : ¬ x1 < 0 → x1 ≤ 2 → WX mi_W_fill 3 (fun rv M' => WX mi_C_mend 5 Q 26 [some (.ref 0), some (.int x1)] (rv.toList ++ []) M') 0 [some (.ref 30), some (.ref 6), some (.ref 9), none, none, none] [] M)
    (h3 : ¬ x1 < 0 → ¬ x1 ≤ 2 → Q (some (.int (-1))) M) :
    WX mi_C_mend 5 Q 0 [some (.ref 0), some (.int x1)] [] M := by
  refine WX.run (pc' := 1) (L' := [some (.ref 0), some (.int x1)]) (st' := [.int x1]) (M' := M) (P := True) 1 rfl trivial ?_
  refine WX.if_lt (off := 8) (tgt := 9) rfl rfl (fun c1 => ?_) (fun c1 => ?_)
  · refine WX.run (pc' := 10) (L' := [some (.ref 0), some (.int x1)]) (st' := [.int (-1)]) (M' := M) (P := True) 1 rfl trivial ?_
    exact WX.iret rfl rfl (h1 c1)
  · refine WX.run (pc' := 6) (L' := [some (.ref 0), some (.int x1)]) (st' := [.int 2, .int x1]) (M' := M) (P := True) 2 rfl trivial ?_
    refine WX.icmp_le (off := 5) (tgt := 11) rfl rfl (fun c2 => ?_) (fun c2 => ?_)
    · refine WX.run (pc' := 23) (L' := [some (.ref 0), some (.int x1)]) (st' := [.ref 9, .ref 6, .ref 30]) (M' := M) (P := True) 6 rfl trivial ?_
      refine WX.callV (ca := mi_W_fill) (n := 2) (d' := 3) (st := []) (As := [.ref 6, .ref 9]) (q := 30) rfl lk_6_158 ck_W_fill cv_W_fill rfl (by decide) rfl (Nat.le_of_ble_eq_true rfl) ⟨by decide, rfl, by decide⟩ (by intro w hw; simp only [List.mem_cons, List.not_mem_nil, or_false] at hw; rcases hw with rfl | rfl <;> rfl) (Nat.le_of_ble_eq_true rfl) ?_
      exact (h2 c1 c2)
    · refine WX.run (pc' := 10) (L' := [some (.ref 0), some (.int x1)]) (st' := [.int (-1)]) (M' := M) (P := True) 1 rfl trivial ?_
      exact WX.iret rfl rfl (h3 c1 c2)
theorem sg_C_mend_0_26 {Q : Option Value → Mem → Prop} (M : Mem) (x1 : Int32)
    (h1 : WX mi_E_search 4 (fun rv M' => WX mi_C_mend 5 Q 37 [some (.ref 0), some (.int x1)] (rv.toList ++ []) M') 0 [some (.ref 32), some (.ref 30), none, none] [] M) :
    WX mi_C_mend 5 Q 26 [some (.ref 0), some (.int x1)] [] M := by
  refine WX.run (pc' := 34) (L' := [some (.ref 0), some (.int x1)]) (st' := [.ref 30, .ref 32]) (M' := M) (P := True) 4 rfl trivial ?_
  refine WX.callV (ca := mi_E_search) (n := 1) (d' := 4) (st := []) (As := [.ref 30]) (q := 32) rfl lk_6_211 ck_E_search cv_E_search rfl (by decide) rfl (Nat.le_of_ble_eq_true rfl) ⟨by decide, rfl, by decide⟩ (by intro w hw; simp only [List.mem_cons, List.not_mem_nil, or_false] at hw; rcases hw with rfl <;> rfl) (Nat.le_of_ble_eq_true rfl) ?_
  exact h1
theorem sg_C_mend_0_37 {Q : Option Value → Mem → Prop} (M : Mem) (x1 : Int32)
    (h1 : ¬ (M.1 32 0) = (-9) → x1 = 0 → Q (some (.int (M.1 32 0))) M)
    (h2 : ¬ (M.1 32 0) = (-9) → x1 = 1 → Q (some (.int (M.1 32 1))) M)
    (h3 : ¬ (M.1 32 0) = (-9) → ¬ x1 = 0 → ¬ x1 = 1 → Q (some (.int (M.1 32 2))) M)
    (h4 : (M.1 32 0) = (-9) → Q (some (.int (-9))) M) :
    WX mi_C_mend 5 Q 37 [some (.ref 0), some (.int x1)] [] M := by
  refine WX.run (pc' := 46) (L' := [some (.ref 0), some (.int x1)]) (st' := [.int (-9), .int (M.1 32 0)]) (M' := M) (P := True) 4 rfl trivial ?_
  refine WX.icmp_ne (off := 6) (tgt := 52) rfl rfl (fun c1 => ?_) (fun c1 => ?_)
  · refine WX.run (pc' := 53) (L' := [some (.ref 0), some (.int x1)]) (st' := [.int x1]) (M' := M) (P := True) 1 rfl trivial ?_
    by_cases c2 : x1 = 0
    · refine WX.lsw (off := 27) (tgt := 80) rfl (by decide) (by rw [c2]; rfl) rfl ?_
      refine WX.run (pc' := 87) (L' := [some (.ref 0), some (.int x1)]) (st' := [.int (M.1 32 0)]) (M' := M) (P := True) 3 rfl trivial ?_
      exact WX.iret rfl rfl (h1 c1 c2)
    · skip
      by_cases c3 : x1 = 1
      · refine WX.lsw (off := 35) (tgt := 88) rfl (by decide) (by rw [c3]; rfl) rfl ?_
        refine WX.run (pc' := 95) (L' := [some (.ref 0), some (.int x1)]) (st' := [.int (M.1 32 1)]) (M' := M) (P := True) 3 rfl trivial ?_
        exact WX.iret rfl rfl (h2 c1 c3)
      · skip
        refine WX.lsw (off := 43) (tgt := 96) rfl (by decide) (by show Op.lookupswitch.offset [(0, 27), (1, 35)] 43 x1.toInt = 43; rw [Op.lookupswitch.offset_cons, if_neg (fun q => i32_ne c2 (by decide) q.symm), Op.lookupswitch.offset_cons, if_neg (fun q => i32_ne c3 (by decide) q.symm)]; rfl) rfl ?_
        refine WX.run (pc' := 103) (L' := [some (.ref 0), some (.int x1)]) (st' := [.int (M.1 32 2)]) (M' := M) (P := True) 3 rfl trivial ?_
        exact WX.iret rfl rfl (h3 c1 c2 c3)
  · refine WX.run (pc' := 51) (L' := [some (.ref 0), some (.int x1)]) (st' := [.int (-9)]) (M' := M) (P := True) 1 rfl trivial ?_
    exact WX.iret rfl rfl (h4 c1)
theorem sg_C_plan_0_0 {Q : Option Value → Mem → Prop} (M : Mem) (x1 : Int32)
    (h1 : x1 = (-1) → WX mi_P_search 25 (fun rv M' => WX mi_C_plan 26 Q 43 [some (.ref 0), some (.int x1)] (rv.toList ++ []) M') 0 [some (.ref 33), some (.ref 6), some (.ref 9), none, none, none, none] [] M)
    (h2 : ¬ x1 = (-1) → (z_C_isNumber x1) = 0 → Q (some (.int (-1))) M)
    (h3 : ¬ x1 = (-1) → ¬ (z_C_isNumber x1) = 0 → WX mi_L_cells 1 (fun rv M' => WX mi_C_plan 26 Q 19 [some (.ref 0), some (.int x1)] (rv.toList ++ []) M') 0 [some (.ref 6), none, none, none] [] M) :
    WX mi_C_plan 26 Q 0 [some (.ref 0), some (.int x1)] [] M := by
  refine WX.run (pc' := 2) (L' := [some (.ref 0), some (.int x1)]) (st' := [.int (-1), .int x1]) (M' := M) (P := True) 2 rfl trivial ?_
  refine WX.icmp_eq (off := 26) (tgt := 28) rfl rfl (fun c1 => ?_) (fun c1 => ?_)
  · refine WX.run (pc' := 40) (L' := [some (.ref 0), some (.int x1)]) (st' := [.ref 9, .ref 6, .ref 33]) (M' := M) (P := True) 6 rfl trivial ?_
    refine WX.callV (ca := mi_P_search) (n := 2) (d' := 25) (st := []) (As := [.ref 6, .ref 9]) (q := 33) rfl lk_6_227 ck_P_search cv_P_search rfl (by decide) rfl (Nat.le_of_ble_eq_true rfl) ⟨by decide, rfl, by decide⟩ (by intro w hw; simp only [List.mem_cons, List.not_mem_nil, or_false] at hw; rcases hw with rfl | rfl <;> rfl) (Nat.le_of_ble_eq_true rfl) ?_
    exact (h1 c1)
  · refine WX.run (pc' := 6) (L' := [some (.ref 0), some (.int x1)]) (st' := [.int x1]) (M' := M) (P := True) 1 rfl trivial ?_
    refine WX.callS (ca := mi_C_isNumber) (n := 1) (d' := 1) (st := []) (As := [.int x1]) rfl lk_6_224 ck_C_isNumber cs_C_isNumber rfl (by decide) rfl (Nat.le_of_ble_eq_true rfl) (by intro w hw; simp only [List.mem_cons, List.not_mem_nil, or_false] at hw; rcases hw with rfl <;> rfl) (Nat.le_of_ble_eq_true rfl) ?_
    refine wx_C_isNumber M x1 ?_
    show WX mi_C_plan 26 Q 9 [some (.ref 0), some (.int x1)] [.int (z_C_isNumber x1)] M
    refine WX.if_eq (off := 17) (tgt := 26) rfl rfl (fun c2 => ?_) (fun c2 => ?_)
    · refine WX.run (pc' := 27) (L' := [some (.ref 0), some (.int x1)]) (st' := [.int (-1)]) (M' := M) (P := True) 1 rfl trivial ?_
      exact WX.iret rfl rfl (h2 c1 c2)
    · refine WX.run (pc' := 16) (L' := [some (.ref 0), some (.int x1)]) (st' := [.ref 6]) (M' := M) (P := True) 2 rfl trivial ?_
      refine WX.callV (ca := mi_L_cells) (n := 0) (d' := 1) (st := []) (As := []) (q := 6) rfl lk_6_205 ck_L_cells cv_L_cells rfl (by decide) rfl (Nat.le_of_ble_eq_true rfl) ⟨by decide, rfl, by decide⟩ (fun w hw => absurd hw List.not_mem_nil) (Nat.le_of_ble_eq_true rfl) ?_
      exact (h3 c1 c2)
theorem sg_C_plan_0_43 {Q : Option Value → Mem → Prop} (M : Mem) (x1 : Int32)
    (h1 : ¬ (M.1 33 0) = (-9) → (z_C_isNumber x1) = 0 → Q (some (.int (M.1 33 0))) M)
    (b2 : ¬ (M.1 33 0) = (-9) → ¬ (z_C_isNumber x1) = 0 → vp_in x1 16)
    (h3 : ¬ (M.1 33 0) = (-9) → ¬ (z_C_isNumber x1) = 0 → Q (some (.int (M.1 34 x1.toNatClampNeg))) M)
    (h4 : (M.1 33 0) = (-9) → Q (some (.int (-9))) M) :
    WX mi_C_plan 26 Q 43 [some (.ref 0), some (.int x1)] [] M := by
  refine WX.run (pc' := 52) (L' := [some (.ref 0), some (.int x1)]) (st' := [.int (-9), .int (M.1 33 0)]) (M' := M) (P := True) 4 rfl trivial ?_
  refine WX.icmp_ne (off := 6) (tgt := 58) rfl rfl (fun c1 => ?_) (fun c1 => ?_)
  · refine WX.run (pc' := 59) (L' := [some (.ref 0), some (.int x1)]) (st' := [.int x1]) (M' := M) (P := True) 1 rfl trivial ?_
    refine WX.callS (ca := mi_C_isNumber) (n := 1) (d' := 1) (st := []) (As := [.int x1]) rfl lk_6_224 ck_C_isNumber cs_C_isNumber rfl (by decide) rfl (Nat.le_of_ble_eq_true rfl) (by intro w hw; simp only [List.mem_cons, List.not_mem_nil, or_false] at hw; rcases hw with rfl <;> rfl) (Nat.le_of_ble_eq_true rfl) ?_
    refine wx_C_isNumber M x1 ?_
    show WX mi_C_plan 26 Q 62 [some (.ref 0), some (.int x1)] [.int (z_C_isNumber x1)] M
    refine WX.if_eq (off := 15) (tgt := 77) rfl rfl (fun c2 => ?_) (fun c2 => ?_)
    · refine WX.run (pc' := 84) (L' := [some (.ref 0), some (.int x1)]) (st' := [.int (M.1 33 0)]) (M' := M) (P := True) 3 rfl trivial ?_
      exact WX.iret rfl rfl (h1 c1 c2)
    · refine WX.run (pc' := 84) (L' := [some (.ref 0), some (.int x1)]) (st' := [.int (M.1 34 x1.toNatClampNeg)]) (M' := M) (P := (True ∧ vp_in x1 16)) 6 rfl ⟨trivial, (b2 c1 c2)⟩ ?_
      exact WX.iret rfl rfl (h3 c1 c2)
  · refine WX.run (pc' := 57) (L' := [some (.ref 0), some (.int x1)]) (st' := [.int (-9)]) (M' := M) (P := True) 1 rfl trivial ?_
    exact WX.iret rfl rfl (h4 c1)
theorem sg_C_plan_0_19 {Q : Option Value → Mem → Prop} (M : Mem) (x1 r : Int32)
    (h1 : ¬ (z_C_holds r x1) = 0 → WX mi_P_search 25 (fun rv M' => WX mi_C_plan 26 Q 43 [some (.ref 0), some (.int x1)] (rv.toList ++ []) M') 0 [some (.ref 33), some (.ref 6), some (.ref 9), none, none, none, none] [] M)
    (h2 : (z_C_holds r x1) = 0 → Q (some (.int (-1))) M) :
    WX mi_C_plan 26 Q 19 [some (.ref 0), some (.int x1)] [.int r] M := by
  refine WX.run (pc' := 20) (L' := [some (.ref 0), some (.int x1)]) (st' := [.int x1, .int r]) (M' := M) (P := True) 1 rfl trivial ?_
  refine WX.callS (ca := mi_C_holds) (n := 2) (d' := 1) (st := []) (As := [.int r, .int x1]) rfl lk_6_136 ck_C_holds cs_C_holds rfl (by decide) rfl (Nat.le_of_ble_eq_true rfl) (by intro w hw; simp only [List.mem_cons, List.not_mem_nil, or_false] at hw; rcases hw with rfl | rfl <;> rfl) (Nat.le_of_ble_eq_true rfl) ?_
  refine wx_C_holds M r x1 ?_
  show WX mi_C_plan 26 Q 23 [some (.ref 0), some (.int x1)] [.int (z_C_holds r x1)] M
  refine WX.if_ne (off := 5) (tgt := 28) rfl rfl (fun c1 => ?_) (fun c1 => ?_)
  · refine WX.run (pc' := 40) (L' := [some (.ref 0), some (.int x1)]) (st' := [.ref 9, .ref 6, .ref 33]) (M' := M) (P := True) 6 rfl trivial ?_
    refine WX.callV (ca := mi_P_search) (n := 2) (d' := 25) (st := []) (As := [.ref 6, .ref 9]) (q := 33) rfl lk_6_227 ck_P_search cv_P_search rfl (by decide) rfl (Nat.le_of_ble_eq_true rfl) ⟨by decide, rfl, by decide⟩ (by intro w hw; simp only [List.mem_cons, List.not_mem_nil, or_false] at hw; rcases hw with rfl | rfl <;> rfl) (Nat.le_of_ble_eq_true rfl) ?_
    exact (h1 c1)
  · refine WX.run (pc' := 27) (L' := [some (.ref 0), some (.int x1)]) (st' := [.int (-1)]) (M' := M) (P := True) 1 rfl trivial ?_
    exact WX.iret rfl rfl (h2 c1)
theorem sg_C_barrow_0_0 {Q : Option Value → Mem → Prop} (M : Mem) (x1 x2 : Int32)
    (h1 : ¬ (z_L_isOpen_6 M x1 x2) = 0 → WX mi_L_cells 1 (fun rv M' => WX mi_C_barrow 5 Q 40 [some (.ref 0), some (.int x1), some (.int x2), some (.int (shl 1 (z_C_numberOf x1 x2))), some (.int (shl 1 (M.1 6 2))), none, none] (rv.toList ++ []) M') 0 [some (.ref 6), none, none, none] [] M)
    (h2 : (z_L_isOpen_6 M x1 x2) = 0 → Q (some (.int (-1))) M) :
    WX mi_C_barrow 5 Q 0 [some (.ref 0), some (.int x1), some (.int x2), none, none, none, none] [] M := by
  refine WX.run (pc' := 6) (L' := [some (.ref 0), some (.int x1), some (.int x2), none, none, none, none]) (st' := [.int x2, .int x1, .ref 6]) (M' := M) (P := True) 4 rfl trivial ?_
  refine WX.callV (ca := mi_L_isOpen) (n := 2) (d' := 2) (st := []) (As := [.int x1, .int x2]) (q := 6) rfl lk_6_196 ck_L_isOpen cv_L_isOpen rfl (by decide) rfl (Nat.le_of_ble_eq_true rfl) ⟨by decide, rfl, by decide⟩ (by intro w hw; simp only [List.mem_cons, List.not_mem_nil, or_false] at hw; rcases hw with rfl | rfl <;> rfl) (Nat.le_of_ble_eq_true rfl) ?_
  refine wx_L_isOpen_6 M x1 x2 ?_
  show WX mi_C_barrow 5 Q 9 [some (.ref 0), some (.int x1), some (.int x2), none, none, none, none] [.int (z_L_isOpen_6 M x1 x2)] M
  refine WX.if_ne (off := 5) (tgt := 14) rfl rfl (fun c1 => ?_) (fun c1 => ?_)
  · refine WX.run (pc' := 17) (L' := [some (.ref 0), some (.int x1), some (.int x2), none, none, none, none]) (st' := [.int x2, .int x1, .int 1]) (M' := M) (P := True) 3 rfl trivial ?_
    refine WX.callS (ca := mi_C_numberOf) (n := 2) (d' := 1) (st := [.int 1]) (As := [.int x1, .int x2]) rfl lk_6_92 ck_C_numberOf cs_C_numberOf rfl (by decide) rfl (Nat.le_of_ble_eq_true rfl) (by intro w hw; simp only [List.mem_cons, List.not_mem_nil, or_false] at hw; rcases hw with rfl | rfl <;> rfl) (Nat.le_of_ble_eq_true rfl) ?_
    refine wx_C_numberOf M x1 x2 ?_
    show WX mi_C_barrow 5 Q 20 [some (.ref 0), some (.int x1), some (.int x2), none, none, none, none] [.int (z_C_numberOf x1 x2), .int 1] M
    refine WX.run (pc' := 37) (L' := [some (.ref 0), some (.int x1), some (.int x2), some (.int (shl 1 (z_C_numberOf x1 x2))), some (.int (shl 1 (M.1 6 2))), none, none]) (st' := [.ref 6]) (M' := M) (P := True) 10 rfl trivial ?_
    refine WX.callV (ca := mi_L_cells) (n := 0) (d' := 1) (st := []) (As := []) (q := 6) rfl lk_6_205 ck_L_cells cv_L_cells rfl (by decide) rfl (Nat.le_of_ble_eq_true rfl) ⟨by decide, rfl, by decide⟩ (fun w hw => absurd hw List.not_mem_nil) (Nat.le_of_ble_eq_true rfl) ?_
    exact (h1 c1)
  · refine WX.run (pc' := 13) (L' := [some (.ref 0), some (.int x1), some (.int x2), none, none, none, none]) (st' := [.int (-1)]) (M' := M) (P := True) 1 rfl trivial ?_
    exact WX.iret rfl rfl (h2 c1)
theorem sg_C_barrow_0_40 {Q : Option Value → Mem → Prop} (M : Mem) (x1 x2 x3 x4 r : Int32)
    (h1 : WX mi_G_todaysCells 4 (fun rv M' => WX mi_C_barrow 5 Q 57 [some (.ref 0), some (.int x1), some (.int x2), some (.int x3), some (.int x4), none, none] (rv.toList ++ [.int (r &&& ((M.1 6 3) ^^^ (-1)))]) M') 0 [some (.ref 9), none, none] [] M) :
    WX mi_C_barrow 5 Q 40 [some (.ref 0), some (.int x1), some (.int x2), some (.int x3), some (.int x4), none, none] [.int r] M := by
  refine WX.run (pc' := 54) (L' := [some (.ref 0), some (.int x1), some (.int x2), some (.int x3), some (.int x4), none, none]) (st' := [.ref 9, .int (r &&& ((M.1 6 3) ^^^ (-1)))]) (M' := M) (P := True) 8 rfl trivial ?_
  refine WX.callV (ca := mi_G_todaysCells) (n := 0) (d' := 4) (st := [.int (r &&& ((M.1 6 3) ^^^ (-1)))]) (As := []) (q := 9) rfl lk_6_193 ck_G_todaysCells cv_G_todaysCells rfl (by decide) rfl (Nat.le_of_ble_eq_true rfl) ⟨by decide, rfl, by decide⟩ (fun w hw => absurd hw List.not_mem_nil) (Nat.le_of_ble_eq_true rfl) ?_
  exact h1
theorem sg_C_barrow_0_57 {Q : Option Value → Mem → Prop} (M : Mem) (x1 x2 x3 x4 r s1 : Int32)
    (h1 : ¬ (x4 &&& (s1 &&& (r ^^^ (-1)))) = 0 → WX mi_C_barrow 5 Q 76 [some (.ref 0), some (.int x1), some (.int x2), some (.int x3), some (.int x4), some (.int (s1 &&& (r ^^^ (-1)))), some (.int 0)] [] M)
    (h2 : (x4 &&& (s1 &&& (r ^^^ (-1)))) = 0 → Q (some (.int (-9))) M) :
    WX mi_C_barrow 5 Q 57 [some (.ref 0), some (.int x1), some (.int x2), some (.int x3), some (.int x4), none, none] [.int r, .int s1] M := by
  refine WX.run (pc' := 67) (L' := [some (.ref 0), some (.int x1), some (.int x2), some (.int x3), some (.int x4), some (.int (s1 &&& (r ^^^ (-1)))), none]) (st' := [.int (x4 &&& (s1 &&& (r ^^^ (-1))))]) (M' := M) (P := True) 7 rfl trivial ?_
  refine WX.if_ne (off := 6) (tgt := 73) rfl rfl (fun c1 => ?_) (fun c1 => ?_)
  · refine WX.run (pc' := 76) (L' := [some (.ref 0), some (.int x1), some (.int x2), some (.int x3), some (.int x4), some (.int (s1 &&& (r ^^^ (-1)))), some (.int 0)]) (st' := []) (M' := M) (P := True) 2 rfl trivial ?_
    exact (h1 c1)
  · refine WX.run (pc' := 72) (L' := [some (.ref 0), some (.int x1), some (.int x2), some (.int x3), some (.int x4), some (.int (s1 &&& (r ^^^ (-1)))), none]) (st' := [.int (-9)]) (M' := M) (P := True) 1 rfl trivial ?_
    exact WX.iret rfl rfl (h2 c1)
theorem sg_C_barrow_0_76 {Q : Option Value → Mem → Prop} (M : Mem) (x1 x2 x3 x4 x5 x6 : Int32)
    (h1 : 16 ≤ x6 → Q (some (.int (-9))) M)
    (h2 : ¬ 16 ≤ x6 → (x4 &&& x3) = 0 → WX mi_C_barrow 5 Q 76 [some (.ref 0), some (.int x1), some (.int x2), some (.int x3), some (.int (x4 ||| ((z_C_beside x4) &&& (x5 ||| x3)))), some (.int x5), some (.int (x6 + 1))] [] M)
    (h3 : ¬ 16 ≤ x6 → ¬ (x4 &&& x3) = 0 → Q (some (.int x6)) M) :
    WX mi_C_barrow 5 Q 76 [some (.ref 0), some (.int x1), some (.int x2), some (.int x3), some (.int x4), some (.int x5), some (.int x6)] [] M := by
  refine WX.run (pc' := 80) (L' := [some (.ref 0), some (.int x1), some (.int x2), some (.int x3), some (.int x4), some (.int x5), some (.int x6)]) (st' := [.int 16, .int x6]) (M' := M) (P := True) 2 rfl trivial ?_
  refine WX.icmp_ge (off := 34) (tgt := 114) rfl rfl (fun c1 => ?_) (fun c1 => ?_)
  · refine WX.run (pc' := 116) (L' := [some (.ref 0), some (.int x1), some (.int x2), some (.int x3), some (.int x4), some (.int x5), some (.int x6)]) (st' := [.int (-9)]) (M' := M) (P := True) 1 rfl trivial ?_
    exact WX.iret rfl rfl (h1 c1)
  · refine WX.run (pc' := 87) (L' := [some (.ref 0), some (.int x1), some (.int x2), some (.int x3), some (.int x4), some (.int x5), some (.int x6)]) (st' := [.int (x4 &&& x3)]) (M' := M) (P := True) 3 rfl trivial ?_
    refine WX.if_eq (off := 6) (tgt := 93) rfl rfl (fun c2 => ?_) (fun c2 => ?_)
    · refine WX.run (pc' := 97) (L' := [some (.ref 0), some (.int x1), some (.int x2), some (.int x3), some (.int x4), some (.int x5), some (.int x6)]) (st' := [.int x4, .int x4]) (M' := M) (P := True) 2 rfl trivial ?_
      refine WX.callS (ca := mi_C_beside) (n := 1) (d' := 1) (st := [.int x4]) (As := [.int x4]) rfl lk_6_238 ck_C_beside cs_C_beside rfl (by decide) rfl (Nat.le_of_ble_eq_true rfl) (by intro w hw; simp only [List.mem_cons, List.not_mem_nil, or_false] at hw; rcases hw with rfl <;> rfl) (Nat.le_of_ble_eq_true rfl) ?_
      refine wx_C_beside M x4 ?_
      show WX mi_C_barrow 5 Q 100 [some (.ref 0), some (.int x1), some (.int x2), some (.int x3), some (.int x4), some (.int x5), some (.int x6)] [.int (z_C_beside x4), .int x4] M
      refine WX.run (pc' := 76) (L' := [some (.ref 0), some (.int x1), some (.int x2), some (.int x3), some (.int (x4 ||| ((z_C_beside x4) &&& (x5 ||| x3)))), some (.int x5), some (.int (x6 + 1))]) (st' := []) (M' := M) (P := True) 8 rfl trivial ?_
      exact (h2 c1 c2)
    · refine WX.run (pc' := 92) (L' := [some (.ref 0), some (.int x1), some (.int x2), some (.int x3), some (.int x4), some (.int x5), some (.int x6)]) (st' := [.int x6]) (M' := M) (P := True) 1 rfl trivial ?_
      exact WX.iret rfl rfl (h3 c1 c2)
theorem sg_C_odds_0_0 {Q : Option Value → Mem → Prop} (M : Mem) (x1 x2 x3 x4 : Int32)
    (h1 : x1 < 0 → Q (some (.int (-1))) M)
    (h2 : ¬ x1 < 0 → 10 < x1 → Q (some (.int (-1))) M)
    (h3 : ¬ x1 < 0 → ¬ 10 < x1 → x2 < 0 → Q (some (.int (-1))) M)
    (h4 : ¬ x1 < 0 → ¬ 10 < x1 → ¬ x2 < 0 → 6 < x2 → Q (some (.int (-1))) M)
    (h5 : ¬ x1 < 0 → ¬ 10 < x1 → ¬ x2 < 0 → ¬ 6 < x2 → x3 < 0 → Q (some (.int (-1))) M)
    (h6 : ¬ x1 < 0 → ¬ 10 < x1 → ¬ x2 < 0 → ¬ 6 < x2 → ¬ x3 < 0 → 6 < x3 → Q (some (.int (-1))) M)
    (h7 : ¬ x1 < 0 → ¬ 10 < x1 → ¬ x2 < 0 → ¬ 6 < x2 → ¬ x3 < 0 → ¬ 6 < x3 → x4 < 0 → Q (some (.int (-1))) M)
    (h8 : ¬ x1 < 0 → ¬ 10 < x1 → ¬ x2 < 0 → ¬ 6 < x2 → ¬ x3 < 0 → ¬ 6 < x3 → ¬ x4 < 0 → x4 ≤ 1 → WX mi_C_power 1 (fun rv M' => WX mi_C_odds 2 Q 49 [some (.ref 0), some (.int x1), some (.int x2), some (.int x3), some (.int x4), none, none, none] (rv.toList ++ []) M') 0 [some (.int 10), some (.int x2), none, none] [] M)
    (h9 : ¬ x1 < 0 → ¬ 10 < x1 → ¬ x2 < 0 → ¬ 6 < x2 → ¬ x3 < 0 → ¬ 6 < x3 → ¬ x4 < 0 → ¬ x4 ≤ 1 → Q (some (.int (-1))) M) :
    WX mi_C_odds 2 Q 0 [some (.ref 0), some (.int x1), some (.int x2), some (.int x3), some (.int x4), none, none, none] [] M := by
  refine WX.run (pc' := 1) (L' := [some (.ref 0), some (.int x1), some (.int x2), some (.int x3), some (.int x4), none, none, none]) (st' := [.int x1]) (M' := M) (P := True) 1 rfl trivial ?_
  refine WX.if_lt (off := 40) (tgt := 41) rfl rfl (fun c1 => ?_) (fun c1 => ?_)
  · refine WX.run (pc' := 42) (L' := [some (.ref 0), some (.int x1), some (.int x2), some (.int x3), some (.int x4), none, none, none]) (st' := [.int (-1)]) (M' := M) (P := True) 1 rfl trivial ?_
    exact WX.iret rfl rfl (h1 c1)
  · refine WX.run (pc' := 7) (L' := [some (.ref 0), some (.int x1), some (.int x2), some (.int x3), some (.int x4), none, none, none]) (st' := [.int 10, .int x1]) (M' := M) (P := True) 2 rfl trivial ?_
    refine WX.icmp_gt (off := 34) (tgt := 41) rfl rfl (fun c2 => ?_) (fun c2 => ?_)
    · refine WX.run (pc' := 42) (L' := [some (.ref 0), some (.int x1), some (.int x2), some (.int x3), some (.int x4), none, none, none]) (st' := [.int (-1)]) (M' := M) (P := True) 1 rfl trivial ?_
      exact WX.iret rfl rfl (h2 c1 c2)
    · refine WX.run (pc' := 11) (L' := [some (.ref 0), some (.int x1), some (.int x2), some (.int x3), some (.int x4), none, none, none]) (st' := [.int x2]) (M' := M) (P := True) 1 rfl trivial ?_
      refine WX.if_lt (off := 30) (tgt := 41) rfl rfl (fun c3 => ?_) (fun c3 => ?_)
      · refine WX.run (pc' := 42) (L' := [some (.ref 0), some (.int x1), some (.int x2), some (.int x3), some (.int x4), none, none, none]) (st' := [.int (-1)]) (M' := M) (P := True) 1 rfl trivial ?_
        exact WX.iret rfl rfl (h3 c1 c2 c3)
      · refine WX.run (pc' := 17) (L' := [some (.ref 0), some (.int x1), some (.int x2), some (.int x3), some (.int x4), none, none, none]) (st' := [.int 6, .int x2]) (M' := M) (P := True) 2 rfl trivial ?_
        refine WX.icmp_gt (off := 24) (tgt := 41) rfl rfl (fun c4 => ?_) (fun c4 => ?_)
        · refine WX.run (pc' := 42) (L' := [some (.ref 0), some (.int x1), some (.int x2), some (.int x3), some (.int x4), none, none, none]) (st' := [.int (-1)]) (M' := M) (P := True) 1 rfl trivial ?_
          exact WX.iret rfl rfl (h4 c1 c2 c3 c4)
        · refine WX.run (pc' := 21) (L' := [some (.ref 0), some (.int x1), some (.int x2), some (.int x3), some (.int x4), none, none, none]) (st' := [.int x3]) (M' := M) (P := True) 1 rfl trivial ?_
          refine WX.if_lt (off := 20) (tgt := 41) rfl rfl (fun c5 => ?_) (fun c5 => ?_)
          · refine WX.run (pc' := 42) (L' := [some (.ref 0), some (.int x1), some (.int x2), some (.int x3), some (.int x4), none, none, none]) (st' := [.int (-1)]) (M' := M) (P := True) 1 rfl trivial ?_
            exact WX.iret rfl rfl (h5 c1 c2 c3 c4 c5)
          · refine WX.run (pc' := 27) (L' := [some (.ref 0), some (.int x1), some (.int x2), some (.int x3), some (.int x4), none, none, none]) (st' := [.int 6, .int x3]) (M' := M) (P := True) 2 rfl trivial ?_
            refine WX.icmp_gt (off := 14) (tgt := 41) rfl rfl (fun c6 => ?_) (fun c6 => ?_)
            · refine WX.run (pc' := 42) (L' := [some (.ref 0), some (.int x1), some (.int x2), some (.int x3), some (.int x4), none, none, none]) (st' := [.int (-1)]) (M' := M) (P := True) 1 rfl trivial ?_
              exact WX.iret rfl rfl (h6 c1 c2 c3 c4 c5 c6)
            · refine WX.run (pc' := 32) (L' := [some (.ref 0), some (.int x1), some (.int x2), some (.int x3), some (.int x4), none, none, none]) (st' := [.int x4]) (M' := M) (P := True) 1 rfl trivial ?_
              refine WX.if_lt (off := 9) (tgt := 41) rfl rfl (fun c7 => ?_) (fun c7 => ?_)
              · refine WX.run (pc' := 42) (L' := [some (.ref 0), some (.int x1), some (.int x2), some (.int x3), some (.int x4), none, none, none]) (st' := [.int (-1)]) (M' := M) (P := True) 1 rfl trivial ?_
                exact WX.iret rfl rfl (h7 c1 c2 c3 c4 c5 c6 c7)
              · refine WX.run (pc' := 38) (L' := [some (.ref 0), some (.int x1), some (.int x2), some (.int x3), some (.int x4), none, none, none]) (st' := [.int 1, .int x4]) (M' := M) (P := True) 2 rfl trivial ?_
                refine WX.icmp_le (off := 5) (tgt := 43) rfl rfl (fun c8 => ?_) (fun c8 => ?_)
                · refine WX.run (pc' := 46) (L' := [some (.ref 0), some (.int x1), some (.int x2), some (.int x3), some (.int x4), none, none, none]) (st' := [.int x2, .int 10]) (M' := M) (P := True) 2 rfl trivial ?_
                  refine WX.callS (ca := mi_C_power) (n := 2) (d' := 1) (st := []) (As := [.int 10, .int x2]) rfl lk_6_241 ck_C_power cs_C_power rfl (by decide) rfl (Nat.le_of_ble_eq_true rfl) (by intro w hw; simp only [List.mem_cons, List.not_mem_nil, or_false] at hw; rcases hw with rfl | rfl <;> rfl) (Nat.le_of_ble_eq_true rfl) ?_
                  exact (h8 c1 c2 c3 c4 c5 c6 c7 c8)
                · refine WX.run (pc' := 42) (L' := [some (.ref 0), some (.int x1), some (.int x2), some (.int x3), some (.int x4), none, none, none]) (st' := [.int (-1)]) (M' := M) (P := True) 1 rfl trivial ?_
                  exact WX.iret rfl rfl (h9 c1 c2 c3 c4 c5 c6 c7 c8)
theorem sg_C_odds_0_49 {Q : Option Value → Mem → Prop} (M : Mem) (x1 x2 x3 x4 r : Int32)
    (h1 : WX mi_C_odds 2 Q 57 [some (.ref 0), some (.int x1), some (.int x2), some (.int x3), some (.int x4), some (.int r), some (.int 0), some (.int x3)] [] M) :
    WX mi_C_odds 2 Q 49 [some (.ref 0), some (.int x1), some (.int x2), some (.int x3), some (.int x4), none, none, none] [.int r] M := by
  refine WX.run (pc' := 57) (L' := [some (.ref 0), some (.int x1), some (.int x2), some (.int x3), some (.int x4), some (.int r), some (.int 0), some (.int x3)]) (st' := []) (M' := M) (P := True) 5 rfl trivial ?_
  exact h1
theorem sg_C_odds_0_57 {Q : Option Value → Mem → Prop} (M : Mem) (x1 x2 x3 x4 x5 x6 x7 : Int32)
    (h1 : x2 < x7 → WX mi_C_commonDivisor 1 (fun rv M' => WX mi_C_odds 2 Q 106 [some (.ref 0), some (.int x1), some (.int x2), some (.int x3), some (.int x4), some (.int x5), some (.int x6), some (.int x7)] (rv.toList ++ []) M') 0 [some (.int x5), some (.int x6), none, none, none, none] [] M)
    (h2 : ¬ x2 < x7 → WX mi_C_choices 1 (fun rv M' => WX mi_C_odds 2 Q 71 [some (.ref 0), some (.int x1), some (.int x2), some (.int x3), some (.int x4), some (.int x5), some (.int x6), some (.int x7)] (rv.toList ++ [.int x6]) M') 0 [some (.int x2), some (.int x7), none, none] [] M) :
    WX mi_C_odds 2 Q 57 [some (.ref 0), some (.int x1), some (.int x2), some (.int x3), some (.int x4), some (.int x5), some (.int x6), some (.int x7)] [] M := by
  refine WX.run (pc' := 60) (L' := [some (.ref 0), some (.int x1), some (.int x2), some (.int x3), some (.int x4), some (.int x5), some (.int x6), some (.int x7)]) (st' := [.int x2, .int x7]) (M' := M) (P := True) 2 rfl trivial ?_
  refine WX.icmp_gt (off := 39) (tgt := 99) rfl rfl (fun c1 => ?_) (fun c1 => ?_)
  · refine WX.run (pc' := 103) (L' := [some (.ref 0), some (.int x1), some (.int x2), some (.int x3), some (.int x4), some (.int x5), some (.int x6), some (.int x7)]) (st' := [.int x6, .int x5]) (M' := M) (P := True) 2 rfl trivial ?_
    refine WX.callS (ca := mi_C_commonDivisor) (n := 2) (d' := 1) (st := []) (As := [.int x5, .int x6]) rfl lk_6_247 ck_C_commonDivisor cs_C_commonDivisor rfl (by decide) rfl (Nat.le_of_ble_eq_true rfl) (by intro w hw; simp only [List.mem_cons, List.not_mem_nil, or_false] at hw; rcases hw with rfl | rfl <;> rfl) (Nat.le_of_ble_eq_true rfl) ?_
    exact (h1 c1)
  · refine WX.run (pc' := 68) (L' := [some (.ref 0), some (.int x1), some (.int x2), some (.int x3), some (.int x4), some (.int x5), some (.int x6), some (.int x7)]) (st' := [.int x7, .int x2, .int x6]) (M' := M) (P := True) 3 rfl trivial ?_
    refine WX.callS (ca := mi_C_choices) (n := 2) (d' := 1) (st := [.int x6]) (As := [.int x2, .int x7]) rfl lk_6_244 ck_C_choices cs_C_choices rfl (by decide) rfl (Nat.le_of_ble_eq_true rfl) (by intro w hw; simp only [List.mem_cons, List.not_mem_nil, or_false] at hw; rcases hw with rfl | rfl <;> rfl) (Nat.le_of_ble_eq_true rfl) ?_
    exact (h2 c1)
theorem sg_C_odds_0_106 {Q : Option Value → Mem → Prop} (M : Mem) (x1 x2 x3 x4 x5 x6 x7 r : Int32)
    (b1 : 0 < r → ¬ x4 = 0 → ¬ r = 0)
    (h2 : 0 < r → ¬ x4 = 0 → Q (some (.int (x5 / r))) M)
    (b3 : 0 < r → x4 = 0 → ¬ r = 0)
    (h4 : 0 < r → x4 = 0 → Q (some (.int (x6 / r))) M)
    (h5 : ¬ 0 < r → Q (some (.int (-1))) M) :
    WX mi_C_odds 2 Q 106 [some (.ref 0), some (.int x1), some (.int x2), some (.int x3), some (.int x4), some (.int x5), some (.int x6), some (.int x7)] [.int r] M := by
  refine WX.run (pc' := 110) (L' := [some (.ref 0), some (.int x1), some (.int x2), some (.int x3), some (.int x4), some (.int x5), some (.int x6), some (.int r)]) (st' := [.int r]) (M' := M) (P := True) 2 rfl trivial ?_
  refine WX.if_gt (off := 5) (tgt := 115) rfl rfl (fun c1 => ?_) (fun c1 => ?_)
  · refine WX.run (pc' := 117) (L' := [some (.ref 0), some (.int x1), some (.int x2), some (.int x3), some (.int x4), some (.int x5), some (.int x6), some (.int r)]) (st' := [.int x4]) (M' := M) (P := True) 1 rfl trivial ?_
    refine WX.if_ne (off := 11) (tgt := 128) rfl rfl (fun c2 => ?_) (fun c2 => ?_)
    · refine WX.run (pc' := 133) (L' := [some (.ref 0), some (.int x1), some (.int x2), some (.int x3), some (.int x4), some (.int x5), some (.int x6), some (.int r)]) (st' := [.int (x5 / r)]) (M' := M) (P := (True ∧ ¬ r = 0)) 3 rfl ⟨trivial, (b1 c1 c2)⟩ ?_
      exact WX.iret rfl rfl (h2 c1 c2)
    · refine WX.run (pc' := 133) (L' := [some (.ref 0), some (.int x1), some (.int x2), some (.int x3), some (.int x4), some (.int x5), some (.int x6), some (.int r)]) (st' := [.int (x6 / r)]) (M' := M) (P := (True ∧ ¬ r = 0)) 4 rfl ⟨trivial, (b3 c1 c2)⟩ ?_
      exact WX.iret rfl rfl (h4 c1 c2)
  · refine WX.run (pc' := 114) (L' := [some (.ref 0), some (.int x1), some (.int x2), some (.int x3), some (.int x4), some (.int x5), some (.int x6), some (.int r)]) (st' := [.int (-1)]) (M' := M) (P := True) 1 rfl trivial ?_
    exact WX.iret rfl rfl (h5 c1)
theorem sg_C_odds_0_71 {Q : Option Value → Mem → Prop} (M : Mem) (x1 x2 x3 x4 x5 x6 x7 r s1 : Int32)
    (h1 : WX mi_C_power 1 (fun rv M' => WX mi_C_odds 2 Q 80 [some (.ref 0), some (.int x1), some (.int x2), some (.int x3), some (.int x4), some (.int x5), some (.int x6), some (.int x7)] (rv.toList ++ [.int r, .int s1]) M') 0 [some (.int (10 - x1)), some (.int x7), none, none] [] M) :
    WX mi_C_odds 2 Q 71 [some (.ref 0), some (.int x1), some (.int x2), some (.int x3), some (.int x4), some (.int x5), some (.int x6), some (.int x7)] [.int r, .int s1] M := by
  refine WX.run (pc' := 77) (L' := [some (.ref 0), some (.int x1), some (.int x2), some (.int x3), some (.int x4), some (.int x5), some (.int x6), some (.int x7)]) (st' := [.int x7, .int (10 - x1), .int r, .int s1]) (M' := M) (P := True) 4 rfl trivial ?_
  refine WX.callS (ca := mi_C_power) (n := 2) (d' := 1) (st := [.int r, .int s1]) (As := [.int (10 - x1), .int x7]) rfl lk_6_241 ck_C_power cs_C_power rfl (by decide) rfl (Nat.le_of_ble_eq_true rfl) (by intro w hw; simp only [List.mem_cons, List.not_mem_nil, or_false] at hw; rcases hw with rfl | rfl <;> rfl) (Nat.le_of_ble_eq_true rfl) ?_
  exact h1
theorem sg_C_odds_0_80 {Q : Option Value → Mem → Prop} (M : Mem) (x1 x2 x3 x4 x5 x6 x7 r s1 s2 : Int32)
    (h1 : WX mi_C_power 1 (fun rv M' => WX mi_C_odds 2 Q 89 [some (.ref 0), some (.int x1), some (.int x2), some (.int x3), some (.int x4), some (.int x5), some (.int x6), some (.int x7)] (rv.toList ++ [.int (s1 * r), .int s2]) M') 0 [some (.int x1), some (.int (x2 - x7)), none, none] [] M) :
    WX mi_C_odds 2 Q 80 [some (.ref 0), some (.int x1), some (.int x2), some (.int x3), some (.int x4), some (.int x5), some (.int x6), some (.int x7)] [.int r, .int s1, .int s2] M := by
  refine WX.run (pc' := 86) (L' := [some (.ref 0), some (.int x1), some (.int x2), some (.int x3), some (.int x4), some (.int x5), some (.int x6), some (.int x7)]) (st' := [.int (x2 - x7), .int x1, .int (s1 * r), .int s2]) (M' := M) (P := True) 5 rfl trivial ?_
  refine WX.callS (ca := mi_C_power) (n := 2) (d' := 1) (st := [.int (s1 * r), .int s2]) (As := [.int x1, .int (x2 - x7)]) rfl lk_6_241 ck_C_power cs_C_power rfl (by decide) rfl (Nat.le_of_ble_eq_true rfl) (by intro w hw; simp only [List.mem_cons, List.not_mem_nil, or_false] at hw; rcases hw with rfl | rfl <;> rfl) (Nat.le_of_ble_eq_true rfl) ?_
  exact h1
theorem sg_C_odds_0_89 {Q : Option Value → Mem → Prop} (M : Mem) (x1 x2 x3 x4 x5 x6 x7 r s1 s2 : Int32)
    (h1 : WX mi_C_odds 2 Q 57 [some (.ref 0), some (.int x1), some (.int x2), some (.int x3), some (.int x4), some (.int x5), some (.int (s2 + (s1 * r))), some (.int (x7 + 1))] [] M) :
    WX mi_C_odds 2 Q 89 [some (.ref 0), some (.int x1), some (.int x2), some (.int x3), some (.int x4), some (.int x5), some (.int x6), some (.int x7)] [.int r, .int s1, .int s2] M := by
  refine WX.run (pc' := 57) (L' := [some (.ref 0), some (.int x1), some (.int x2), some (.int x3), some (.int x4), some (.int x5), some (.int (s2 + (s1 * r))), some (.int (x7 + 1))]) (st' := []) (M' := M) (P := True) 5 rfl trivial ?_
  exact h1
theorem sg_C_saw_0_0 {Q : Option Value → Mem → Prop} (M : Mem) (x1 x2 : Int32)
    (h1 : ¬ (z_L_isOpen_6 M x1 x2) = 0 → (M.1 0 10) < 6 → Q (some (.int ((M.1 0 10) + 1))) (wr (wr M 0 9 ((M.1 0 9) ||| (shl 1 (z_C_numberOf x1 x2)))) 0 10 ((M.1 0 10) + 1)))
    (h2 : ¬ (z_L_isOpen_6 M x1 x2) = 0 → ¬ (M.1 0 10) < 6 → Q (some (.int (-3))) M)
    (h3 : (z_L_isOpen_6 M x1 x2) = 0 → Q (some (.int (-1))) M) :
    WX mi_C_saw 3 Q 0 [some (.ref 0), some (.int x1), some (.int x2)] [] M := by
  refine WX.run (pc' := 6) (L' := [some (.ref 0), some (.int x1), some (.int x2)]) (st' := [.int x2, .int x1, .ref 6]) (M' := M) (P := True) 4 rfl trivial ?_
  refine WX.callV (ca := mi_L_isOpen) (n := 2) (d' := 2) (st := []) (As := [.int x1, .int x2]) (q := 6) rfl lk_6_196 ck_L_isOpen cv_L_isOpen rfl (by decide) rfl (Nat.le_of_ble_eq_true rfl) ⟨by decide, rfl, by decide⟩ (by intro w hw; simp only [List.mem_cons, List.not_mem_nil, or_false] at hw; rcases hw with rfl | rfl <;> rfl) (Nat.le_of_ble_eq_true rfl) ?_
  refine wx_L_isOpen_6 M x1 x2 ?_
  show WX mi_C_saw 3 Q 9 [some (.ref 0), some (.int x1), some (.int x2)] [.int (z_L_isOpen_6 M x1 x2)] M
  refine WX.if_ne (off := 5) (tgt := 14) rfl rfl (fun c1 => ?_) (fun c1 => ?_)
  · refine WX.run (pc' := 20) (L' := [some (.ref 0), some (.int x1), some (.int x2)]) (st' := [.int 6, .int (M.1 0 10)]) (M' := M) (P := True) 3 rfl trivial ?_
    refine WX.icmp_lt (off := 6) (tgt := 26) rfl rfl (fun c2 => ?_) (fun c2 => ?_)
    · refine WX.run (pc' := 34) (L' := [some (.ref 0), some (.int x1), some (.int x2)]) (st' := [.int x2, .int x1, .int 1, .int (M.1 0 9), .ref 0]) (M' := M) (P := True) 6 rfl trivial ?_
      refine WX.callS (ca := mi_C_numberOf) (n := 2) (d' := 1) (st := [.int 1, .int (M.1 0 9), .ref 0]) (As := [.int x1, .int x2]) rfl lk_6_92 ck_C_numberOf cs_C_numberOf rfl (by decide) rfl (Nat.le_of_ble_eq_true rfl) (by intro w hw; simp only [List.mem_cons, List.not_mem_nil, or_false] at hw; rcases hw with rfl | rfl <;> rfl) (Nat.le_of_ble_eq_true rfl) ?_
      refine wx_C_numberOf M x1 x2 ?_
      show WX mi_C_saw 3 Q 37 [some (.ref 0), some (.int x1), some (.int x2)] [.int (z_C_numberOf x1 x2), .int 1, .int (M.1 0 9), .ref 0] M
      refine WX.run (pc' := 56) (L' := [some (.ref 0), some (.int x1), some (.int x2)]) (st' := [.int ((M.1 0 10) + 1)]) (M' := (wr (wr M 0 9 ((M.1 0 9) ||| (shl 1 (z_C_numberOf x1 x2)))) 0 10 ((M.1 0 10) + 1))) (P := True) 11 rfl trivial ?_
      exact WX.iret rfl rfl (h1 c1 c2)
    · refine WX.run (pc' := 25) (L' := [some (.ref 0), some (.int x1), some (.int x2)]) (st' := [.int (-3)]) (M' := M) (P := True) 1 rfl trivial ?_
      exact WX.iret rfl rfl (h2 c1 c2)
  · refine WX.run (pc' := 13) (L' := [some (.ref 0), some (.int x1), some (.int x2)]) (st' := [.int (-1)]) (M' := M) (P := True) 1 rfl trivial ?_
    exact WX.iret rfl rfl (h3 c1)
theorem sg_C_forget_0_0 {Q : Option Value → Mem → Prop} (M : Mem)
    (h1 : Q (some (.int (M.1 0 10))) (wr (wr M 0 9 0) 0 10 0)) :
    WX mi_C_forget 1 Q 0 [some (.ref 0), none] [] M := by
  refine WX.run (pc' := 16) (L' := [some (.ref 0), some (.int (M.1 0 10))]) (st' := [.int (M.1 0 10)]) (M' := (wr (wr M 0 9 0) 0 10 0)) (P := True) 10 rfl trivial ?_
  exact WX.iret rfl rfl h1
theorem sg_C_from_0_0 {Q : Option Value → Mem → Prop} (M : Mem)
    (h1 : WX mi_W_fill 3 (fun rv M' => WX mi_C_from 5 Q 15 [some (.ref 0), none, none, none] (rv.toList ++ []) M') 0 [some (.ref 30), some (.ref 6), some (.ref 9), none, none, none] [] M) :
    WX mi_C_from 5 Q 0 [some (.ref 0), none, none, none] [] M := by
  refine WX.run (pc' := 12) (L' := [some (.ref 0), none, none, none]) (st' := [.ref 9, .ref 6, .ref 30]) (M' := M) (P := True) 6 rfl trivial ?_
  refine WX.callV (ca := mi_W_fill) (n := 2) (d' := 3) (st := []) (As := [.ref 6, .ref 9]) (q := 30) rfl lk_6_158 ck_W_fill cv_W_fill rfl (by decide) rfl (Nat.le_of_ble_eq_true rfl) ⟨by decide, rfl, by decide⟩ (by intro w hw; simp only [List.mem_cons, List.not_mem_nil, or_false] at hw; rcases hw with rfl | rfl <;> rfl) (Nat.le_of_ble_eq_true rfl) ?_
  exact h1
theorem sg_C_from_0_15 {Q : Option Value → Mem → Prop} (M : Mem)
    (h1 : WX mi_L_cells 1 (fun rv M' => WX mi_C_from 5 Q 22 [some (.ref 0), none, none, none] (rv.toList ++ []) M') 0 [some (.ref 6), none, none, none] [] M) :
    WX mi_C_from 5 Q 15 [some (.ref 0), none, none, none] [] M := by
  refine WX.run (pc' := 19) (L' := [some (.ref 0), none, none, none]) (st' := [.ref 6]) (M' := M) (P := True) 2 rfl trivial ?_
  refine WX.callV (ca := mi_L_cells) (n := 0) (d' := 1) (st := []) (As := []) (q := 6) rfl lk_6_205 ck_L_cells cv_L_cells rfl (by decide) rfl (Nat.le_of_ble_eq_true rfl) ⟨by decide, rfl, by decide⟩ (fun w hw => absurd hw List.not_mem_nil) (Nat.le_of_ble_eq_true rfl) ?_
  exact h1
theorem sg_C_from_0_22 {Q : Option Value → Mem → Prop} (M : Mem) (r : Int32)
    (h1 : WX mi_C_from 5 Q 37 [some (.ref 0), some (.int (r &&& ((M.1 6 3) ^^^ (-1)))), some (.int 0), some (.int 0)] [] M) :
    WX mi_C_from 5 Q 22 [some (.ref 0), none, none, none] [.int r] M := by
  refine WX.run (pc' := 37) (L' := [some (.ref 0), some (.int (r &&& ((M.1 6 3) ^^^ (-1)))), some (.int 0), some (.int 0)]) (st' := []) (M' := M) (P := True) 11 rfl trivial ?_
  exact h1
theorem sg_C_from_0_37 {Q : Option Value → Mem → Prop} (M : Mem) (x1 x2 x3 : Int32)
    (h1 : 16 ≤ x3 → Q (some (.int x2)) M)
    (h2 : ¬ 16 ≤ x3 → (z_C_holds x1 x3) = 0 → WX mi_C_from 5 Q 37 [some (.ref 0), some (.int x1), some (.int x2), some (.int (x3 + 1))] [] M)
    (h3 : ¬ 16 ≤ x3 → ¬ (z_C_holds x1 x3) = 0 → WX mi_W_wayOf 4 (fun rv M' => WX mi_C_from 5 Q 63 [some (.ref 0), some (.int x1), some (.int x2), some (.int x3)] (rv.toList ++ [.int (M.1 0 9)]) M') 0 [some (.ref 30), some (.int x3), none, none, none] [] M) :
    WX mi_C_from 5 Q 37 [some (.ref 0), some (.int x1), some (.int x2), some (.int x3)] [] M := by
  refine WX.run (pc' := 40) (L' := [some (.ref 0), some (.int x1), some (.int x2), some (.int x3)]) (st' := [.int 16, .int x3]) (M' := M) (P := True) 2 rfl trivial ?_
  refine WX.icmp_ge (off := 41) (tgt := 81) rfl rfl (fun c1 => ?_) (fun c1 => ?_)
  · refine WX.run (pc' := 82) (L' := [some (.ref 0), some (.int x1), some (.int x2), some (.int x3)]) (st' := [.int x2]) (M' := M) (P := True) 1 rfl trivial ?_
    exact WX.iret rfl rfl (h1 c1)
  · refine WX.run (pc' := 45) (L' := [some (.ref 0), some (.int x1), some (.int x2), some (.int x3)]) (st' := [.int x3, .int x1]) (M' := M) (P := True) 2 rfl trivial ?_
    refine WX.callS (ca := mi_C_holds) (n := 2) (d' := 1) (st := []) (As := [.int x1, .int x3]) rfl lk_6_136 ck_C_holds cs_C_holds rfl (by decide) rfl (Nat.le_of_ble_eq_true rfl) (by intro w hw; simp only [List.mem_cons, List.not_mem_nil, or_false] at hw; rcases hw with rfl | rfl <;> rfl) (Nat.le_of_ble_eq_true rfl) ?_
    refine wx_C_holds M x1 x3 ?_
    show WX mi_C_from 5 Q 48 [some (.ref 0), some (.int x1), some (.int x2), some (.int x3)] [.int (z_C_holds x1 x3)] M
    refine WX.if_eq (off := 27) (tgt := 75) rfl rfl (fun c2 => ?_) (fun c2 => ?_)
    · refine WX.run (pc' := 37) (L' := [some (.ref 0), some (.int x1), some (.int x2), some (.int (x3 + 1))]) (st' := []) (M' := M) (P := True) 2 rfl trivial ?_
      exact (h2 c1 c2)
    · refine WX.run (pc' := 60) (L' := [some (.ref 0), some (.int x1), some (.int x2), some (.int x3)]) (st' := [.int x3, .ref 30, .int (M.1 0 9)]) (M' := M) (P := True) 5 rfl trivial ?_
      refine WX.callV (ca := mi_W_wayOf) (n := 1) (d' := 4) (st := [.int (M.1 0 9)]) (As := [.int x3]) (q := 30) rfl lk_6_202 ck_W_wayOf cv_W_wayOf rfl (by decide) rfl (Nat.le_of_ble_eq_true rfl) ⟨by decide, rfl, by decide⟩ (by intro w hw; simp only [List.mem_cons, List.not_mem_nil, or_false] at hw; rcases hw with rfl <;> rfl) (Nat.le_of_ble_eq_true rfl) ?_
      exact (h3 c1 c2)
theorem sg_C_from_0_63 {Q : Option Value → Mem → Prop} (M : Mem) (x1 x2 x3 r s1 : Int32)
    (h1 : ¬ (s1 &&& (r ^^^ (-1))) = 0 → WX mi_C_from 5 Q 37 [some (.ref 0), some (.int x1), some (.int x2), some (.int (x3 + 1))] [] M)
    (h2 : (s1 &&& (r ^^^ (-1))) = 0 → WX mi_C_from 5 Q 37 [some (.ref 0), some (.int x1), some (.int (x2 ||| (shl 1 x3))), some (.int (x3 + 1))] [] M) :
    WX mi_C_from 5 Q 63 [some (.ref 0), some (.int x1), some (.int x2), some (.int x3)] [.int r, .int s1] M := by
  refine WX.run (pc' := 66) (L' := [some (.ref 0), some (.int x1), some (.int x2), some (.int x3)]) (st' := [.int (s1 &&& (r ^^^ (-1)))]) (M' := M) (P := True) 3 rfl trivial ?_
  refine WX.if_ne (off := 9) (tgt := 75) rfl rfl (fun c1 => ?_) (fun c1 => ?_)
  · refine WX.run (pc' := 37) (L' := [some (.ref 0), some (.int x1), some (.int x2), some (.int (x3 + 1))]) (st' := []) (M' := M) (P := True) 2 rfl trivial ?_
    exact (h1 c1)
  · refine WX.run (pc' := 37) (L' := [some (.ref 0), some (.int x1), some (.int (x2 ||| (shl 1 x3))), some (.int (x3 + 1))]) (st' := []) (M' := M) (P := True) 8 rfl trivial ?_
    exact (h2 c1)
theorem sg_C_mark_0_0 {Q : Option Value → Mem → Prop} (M : Mem) (x1 x2 x3 : Int32)
    (h1 : ¬ (z_L_has_6 M x2 x3) = 0 → x1 = 0 → WX mi_C_markCell 3 (fun rv M' => WX mi_C_mark 6 Q 66 [some (.ref 0), some (.int x1), some (.int x2), some (.int x3), some (.int (z_C_numberOf x2 x3))] (rv.toList ++ []) M') 0 [some (.ref 0), some (.int (z_C_numberOf x2 x3))] [] M)
    (h2 : ¬ (z_L_has_6 M x2 x3) = 0 → x1 = 1 → WX mi_C_markTrue 4 (fun rv M' => WX mi_C_mark 6 Q 73 [some (.ref 0), some (.int x1), some (.int x2), some (.int x3), some (.int (z_C_numberOf x2 x3))] (rv.toList ++ []) M') 0 [some (.ref 0), some (.int (z_C_numberOf x2 x3))] [] M)
    (h3 : ¬ (z_L_has_6 M x2 x3) = 0 → x1 = 2 → WX mi_C_markLow 4 (fun rv M' => WX mi_C_mark 6 Q 80 [some (.ref 0), some (.int x1), some (.int x2), some (.int x3), some (.int (z_C_numberOf x2 x3))] (rv.toList ++ []) M') 0 [some (.ref 0), some (.int (z_C_numberOf x2 x3))] [] M)
    (h4 : ¬ (z_L_has_6 M x2 x3) = 0 → x1 = 3 → WX mi_C_markRocking 5 (fun rv M' => WX mi_C_mark 6 Q 87 [some (.ref 0), some (.int x1), some (.int x2), some (.int x3), some (.int (z_C_numberOf x2 x3))] (rv.toList ++ []) M') 0 [some (.ref 0), some (.int (z_C_numberOf x2 x3))] [] M)
    (h5 : ¬ (z_L_has_6 M x2 x3) = 0 → x1 = 4 → WX mi_C_markCut 5 (fun rv M' => WX mi_C_mark 6 Q 94 [some (.ref 0), some (.int x1), some (.int x2), some (.int x3), some (.int (z_C_numberOf x2 x3))] (rv.toList ++ []) M') 0 [some (.ref 0), some (.int (z_C_numberOf x2 x3))] [] M)
    (h6 : ¬ (z_L_has_6 M x2 x3) = 0 → x1 = 5 → WX mi_C_markWet 4 (fun rv M' => WX mi_C_mark 6 Q 101 [some (.ref 0), some (.int x1), some (.int x2), some (.int x3), some (.int (z_C_numberOf x2 x3))] (rv.toList ++ []) M') 0 [some (.ref 0), some (.int (z_C_numberOf x2 x3))] [] M)
    (h7 : ¬ (z_L_has_6 M x2 x3) = 0 → ¬ x1 = 0 → ¬ x1 = 1 → ¬ x1 = 2 → ¬ x1 = 3 → ¬ x1 = 4 → ¬ x1 = 5 → Q (some (.int (-1000000))) M)
    (h8 : (z_L_has_6 M x2 x3) = 0 → Q (some (.int (-1000000))) M) :
    WX mi_C_mark 6 Q 0 [some (.ref 0), some (.int x1), some (.int x2), some (.int x3), none] [] M := by
  refine WX.run (pc' := 6) (L' := [some (.ref 0), some (.int x1), some (.int x2), some (.int x3), none]) (st' := [.int x3, .int x2, .ref 6]) (M' := M) (P := True) 4 rfl trivial ?_
  refine WX.callV (ca := mi_L_has) (n := 2) (d' := 1) (st := []) (As := [.int x2, .int x3]) (q := 6) rfl lk_6_88 ck_L_has cv_L_has rfl (by decide) rfl (Nat.le_of_ble_eq_true rfl) ⟨by decide, rfl, by decide⟩ (by intro w hw; simp only [List.mem_cons, List.not_mem_nil, or_false] at hw; rcases hw with rfl | rfl <;> rfl) (Nat.le_of_ble_eq_true rfl) ?_
  refine wx_L_has_6 M x2 x3 ?_
  show WX mi_C_mark 6 Q 9 [some (.ref 0), some (.int x1), some (.int x2), some (.int x3), none] [.int (z_L_has_6 M x2 x3)] M
  refine WX.if_ne (off := 6) (tgt := 15) rfl rfl (fun c1 => ?_) (fun c1 => ?_)
  · refine WX.run (pc' := 17) (L' := [some (.ref 0), some (.int x1), some (.int x2), some (.int x3), none]) (st' := [.int x3, .int x2]) (M' := M) (P := True) 2 rfl trivial ?_
    refine WX.callS (ca := mi_C_numberOf) (n := 2) (d' := 1) (st := []) (As := [.int x2, .int x3]) rfl lk_6_92 ck_C_numberOf cs_C_numberOf rfl (by decide) rfl (Nat.le_of_ble_eq_true rfl) (by intro w hw; simp only [List.mem_cons, List.not_mem_nil, or_false] at hw; rcases hw with rfl | rfl <;> rfl) (Nat.le_of_ble_eq_true rfl) ?_
    refine wx_C_numberOf M x2 x3 ?_
    show WX mi_C_mark 6 Q 20 [some (.ref 0), some (.int x1), some (.int x2), some (.int x3), none] [.int (z_C_numberOf x2 x3)] M
    refine WX.run (pc' := 23) (L' := [some (.ref 0), some (.int x1), some (.int x2), some (.int x3), some (.int (z_C_numberOf x2 x3))]) (st' := [.int x1]) (M' := M) (P := True) 2 rfl trivial ?_
    by_cases c2 : x1 = 0
    · refine WX.tsw (tgt := 60) rfl (by decide) (by rw [c2]; decide) ?_
      refine WX.run (pc' := 63) (L' := [some (.ref 0), some (.int x1), some (.int x2), some (.int x3), some (.int (z_C_numberOf x2 x3))]) (st' := [.int (z_C_numberOf x2 x3), .ref 0]) (M' := M) (P := True) 2 rfl trivial ?_
      refine WX.callV (ca := mi_C_markCell) (n := 1) (d' := 3) (st := []) (As := [.int (z_C_numberOf x2 x3)]) (q := 0) rfl lk_6_251 ck_C_markCell cv_C_markCell rfl (by decide) rfl (Nat.le_of_ble_eq_true rfl) ⟨by decide, rfl, by decide⟩ (by intro w hw; simp only [List.mem_cons, List.not_mem_nil, or_false] at hw; rcases hw with rfl <;> rfl) (Nat.le_of_ble_eq_true rfl) ?_
      exact (h1 c1 c2)
    · skip
      by_cases c3 : x1 = 1
      · refine WX.tsw (tgt := 67) rfl (by decide) (by rw [c3]; decide) ?_
        refine WX.run (pc' := 70) (L' := [some (.ref 0), some (.int x1), some (.int x2), some (.int x3), some (.int (z_C_numberOf x2 x3))]) (st' := [.int (z_C_numberOf x2 x3), .ref 0]) (M' := M) (P := True) 2 rfl trivial ?_
        refine WX.callV (ca := mi_C_markTrue) (n := 1) (d' := 4) (st := []) (As := [.int (z_C_numberOf x2 x3)]) (q := 0) rfl lk_6_254 ck_C_markTrue cv_C_markTrue rfl (by decide) rfl (Nat.le_of_ble_eq_true rfl) ⟨by decide, rfl, by decide⟩ (by intro w hw; simp only [List.mem_cons, List.not_mem_nil, or_false] at hw; rcases hw with rfl <;> rfl) (Nat.le_of_ble_eq_true rfl) ?_
        exact (h2 c1 c3)
      · skip
        by_cases c4 : x1 = 2
        · refine WX.tsw (tgt := 74) rfl (by decide) (by rw [c4]; decide) ?_
          refine WX.run (pc' := 77) (L' := [some (.ref 0), some (.int x1), some (.int x2), some (.int x3), some (.int (z_C_numberOf x2 x3))]) (st' := [.int (z_C_numberOf x2 x3), .ref 0]) (M' := M) (P := True) 2 rfl trivial ?_
          refine WX.callV (ca := mi_C_markLow) (n := 1) (d' := 4) (st := []) (As := [.int (z_C_numberOf x2 x3)]) (q := 0) rfl lk_6_257 ck_C_markLow cv_C_markLow rfl (by decide) rfl (Nat.le_of_ble_eq_true rfl) ⟨by decide, rfl, by decide⟩ (by intro w hw; simp only [List.mem_cons, List.not_mem_nil, or_false] at hw; rcases hw with rfl <;> rfl) (Nat.le_of_ble_eq_true rfl) ?_
          exact (h3 c1 c4)
        · skip
          by_cases c5 : x1 = 3
          · refine WX.tsw (tgt := 81) rfl (by decide) (by rw [c5]; decide) ?_
            refine WX.run (pc' := 84) (L' := [some (.ref 0), some (.int x1), some (.int x2), some (.int x3), some (.int (z_C_numberOf x2 x3))]) (st' := [.int (z_C_numberOf x2 x3), .ref 0]) (M' := M) (P := True) 2 rfl trivial ?_
            refine WX.callV (ca := mi_C_markRocking) (n := 1) (d' := 5) (st := []) (As := [.int (z_C_numberOf x2 x3)]) (q := 0) rfl lk_6_260 ck_C_markRocking cv_C_markRocking rfl (by decide) rfl (Nat.le_of_ble_eq_true rfl) ⟨by decide, rfl, by decide⟩ (by intro w hw; simp only [List.mem_cons, List.not_mem_nil, or_false] at hw; rcases hw with rfl <;> rfl) (Nat.le_of_ble_eq_true rfl) ?_
            exact (h4 c1 c5)
          · skip
            by_cases c6 : x1 = 4
            · refine WX.tsw (tgt := 88) rfl (by decide) (by rw [c6]; decide) ?_
              refine WX.run (pc' := 91) (L' := [some (.ref 0), some (.int x1), some (.int x2), some (.int x3), some (.int (z_C_numberOf x2 x3))]) (st' := [.int (z_C_numberOf x2 x3), .ref 0]) (M' := M) (P := True) 2 rfl trivial ?_
              refine WX.callV (ca := mi_C_markCut) (n := 1) (d' := 5) (st := []) (As := [.int (z_C_numberOf x2 x3)]) (q := 0) rfl lk_6_263 ck_C_markCut cv_C_markCut rfl (by decide) rfl (Nat.le_of_ble_eq_true rfl) ⟨by decide, rfl, by decide⟩ (by intro w hw; simp only [List.mem_cons, List.not_mem_nil, or_false] at hw; rcases hw with rfl <;> rfl) (Nat.le_of_ble_eq_true rfl) ?_
              exact (h5 c1 c6)
            · skip
              by_cases c7 : x1 = 5
              · refine WX.tsw (tgt := 95) rfl (by decide) (by rw [c7]; decide) ?_
                refine WX.run (pc' := 98) (L' := [some (.ref 0), some (.int x1), some (.int x2), some (.int x3), some (.int (z_C_numberOf x2 x3))]) (st' := [.int (z_C_numberOf x2 x3), .ref 0]) (M' := M) (P := True) 2 rfl trivial ?_
                refine WX.callV (ca := mi_C_markWet) (n := 1) (d' := 4) (st := []) (As := [.int (z_C_numberOf x2 x3)]) (q := 0) rfl lk_6_266 ck_C_markWet cv_C_markWet rfl (by decide) rfl (Nat.le_of_ble_eq_true rfl) ⟨by decide, rfl, by decide⟩ (by intro w hw; simp only [List.mem_cons, List.not_mem_nil, or_false] at hw; rcases hw with rfl <;> rfl) (Nat.le_of_ble_eq_true rfl) ?_
                exact (h6 c1 c7)
              · skip
                refine WX.tsw (tgt := 102) rfl (by decide) (by
                      by_cases hr : (x1).toInt < 0 ∨ 5 < (x1).toInt
                      · unfold tswo; rw [if_pos hr]; rfl
                      · have hh : (x1).toInt = 0 ∨ (x1).toInt = 1 ∨ (x1).toInt = 2 ∨ (x1).toInt = 3 ∨ (x1).toInt = 4 ∨ (x1).toInt = 5 := by omega
                        rcases hh with hh | hh | hh | hh | hh | hh
                        · exact absurd hh (i32_ne c2 (by decide))
                        · exact absurd hh (i32_ne c3 (by decide))
                        · exact absurd hh (i32_ne c4 (by decide))
                        · exact absurd hh (i32_ne c5 (by decide))
                        · exact absurd hh (i32_ne c6 (by decide))
                        · exact absurd hh (i32_ne c7 (by decide))) ?_
                refine WX.run (pc' := 104) (L' := [some (.ref 0), some (.int x1), some (.int x2), some (.int x3), some (.int (z_C_numberOf x2 x3))]) (st' := [.int (-1000000)]) (M' := M) (P := True) 1 rfl trivial ?_
                exact WX.iret rfl rfl (h7 c1 c2 c3 c4 c5 c6 c7)
  · refine WX.run (pc' := 14) (L' := [some (.ref 0), some (.int x1), some (.int x2), some (.int x3), none]) (st' := [.int (-1000000)]) (M' := M) (P := True) 1 rfl trivial ?_
    exact WX.iret rfl rfl (h8 c1)
theorem sg_C_mark_0_66 {Q : Option Value → Mem → Prop} (M : Mem) (x1 x2 x3 x4 r : Int32)
    (h1 : Q (some (.int r)) M) :
    WX mi_C_mark 6 Q 66 [some (.ref 0), some (.int x1), some (.int x2), some (.int x3), some (.int x4)] [.int r] M := by
  exact WX.iret rfl rfl h1
theorem sg_C_mark_0_73 {Q : Option Value → Mem → Prop} (M : Mem) (x1 x2 x3 x4 r : Int32)
    (h1 : Q (some (.int r)) M) :
    WX mi_C_mark 6 Q 73 [some (.ref 0), some (.int x1), some (.int x2), some (.int x3), some (.int x4)] [.int r] M := by
  exact WX.iret rfl rfl h1
theorem sg_C_mark_0_80 {Q : Option Value → Mem → Prop} (M : Mem) (x1 x2 x3 x4 r : Int32)
    (h1 : Q (some (.int r)) M) :
    WX mi_C_mark 6 Q 80 [some (.ref 0), some (.int x1), some (.int x2), some (.int x3), some (.int x4)] [.int r] M := by
  exact WX.iret rfl rfl h1
theorem sg_C_mark_0_87 {Q : Option Value → Mem → Prop} (M : Mem) (x1 x2 x3 x4 r : Int32)
    (h1 : Q (some (.int r)) M) :
    WX mi_C_mark 6 Q 87 [some (.ref 0), some (.int x1), some (.int x2), some (.int x3), some (.int x4)] [.int r] M := by
  exact WX.iret rfl rfl h1
theorem sg_C_mark_0_94 {Q : Option Value → Mem → Prop} (M : Mem) (x1 x2 x3 x4 r : Int32)
    (h1 : Q (some (.int r)) M) :
    WX mi_C_mark 6 Q 94 [some (.ref 0), some (.int x1), some (.int x2), some (.int x3), some (.int x4)] [.int r] M := by
  exact WX.iret rfl rfl h1
theorem sg_C_mark_0_101 {Q : Option Value → Mem → Prop} (M : Mem) (x1 x2 x3 x4 r : Int32)
    (h1 : Q (some (.int r)) M) :
    WX mi_C_mark 6 Q 101 [some (.ref 0), some (.int x1), some (.int x2), some (.int x3), some (.int x4)] [.int r] M := by
  exact WX.iret rfl rfl h1
theorem sg_C_keep_0_0 {Q : Option Value → Mem → Prop} (M : Mem) (x1 : Int32)
    (h1 : x1 < 0 → Q (some (.int (-1))) M)
    (h2 : ¬ x1 < 0 → x1 < 2 → WX mi_C_imageOf 1 (fun rv M' => WX mi_C_keep 2 Q 16 [some (.ref 0), some (.int x1)] (rv.toList ++ []) M') 0 [some (.ref 0), some (.int x1)] [] M)
    (h3 : ¬ x1 < 0 → ¬ x1 < 2 → Q (some (.int (-1))) M) :
    WX mi_C_keep 2 Q 0 [some (.ref 0), some (.int x1)] [] M := by
  refine WX.run (pc' := 1) (L' := [some (.ref 0), some (.int x1)]) (st' := [.int x1]) (M' := M) (P := True) 1 rfl trivial ?_
  refine WX.if_lt (off := 8) (tgt := 9) rfl rfl (fun c1 => ?_) (fun c1 => ?_)
  · refine WX.run (pc' := 10) (L' := [some (.ref 0), some (.int x1)]) (st' := [.int (-1)]) (M' := M) (P := True) 1 rfl trivial ?_
    exact WX.iret rfl rfl (h1 c1)
  · refine WX.run (pc' := 6) (L' := [some (.ref 0), some (.int x1)]) (st' := [.int 2, .int x1]) (M' := M) (P := True) 2 rfl trivial ?_
    refine WX.icmp_lt (off := 5) (tgt := 11) rfl rfl (fun c2 => ?_) (fun c2 => ?_)
    · refine WX.run (pc' := 13) (L' := [some (.ref 0), some (.int x1)]) (st' := [.int x1, .ref 0]) (M' := M) (P := True) 2 rfl trivial ?_
      refine WX.callV (ca := mi_C_imageOf) (n := 1) (d' := 1) (st := []) (As := [.int x1]) (q := 0) rfl lk_6_269 ck_C_imageOf cv_C_imageOf rfl (by decide) rfl (Nat.le_of_ble_eq_true rfl) ⟨by decide, rfl, by decide⟩ (by intro w hw; simp only [List.mem_cons, List.not_mem_nil, or_false] at hw; rcases hw with rfl <;> rfl) (Nat.le_of_ble_eq_true rfl) ?_
      exact (h2 c1 c2)
    · refine WX.run (pc' := 10) (L' := [some (.ref 0), some (.int x1)]) (st' := [.int (-1)]) (M' := M) (P := True) 1 rfl trivial ?_
      exact WX.iret rfl rfl (h3 c1 c2)
theorem sg_C_keep_0_16r16 {Q : Option Value → Mem → Prop} (M : Mem) (x1 : Int32)
    (h1 : WX mi_G_copyFrom 1 (fun rv M' => WX mi_C_keep 2 Q 23 [some (.ref 0), some (.int x1)] (rv.toList ++ []) M') 0 [some (.ref 16), some (.ref 9), none] [] M) :
    WX mi_C_keep 2 Q 16 [some (.ref 0), some (.int x1)] [.ref 16] M := by
  refine WX.run (pc' := 20) (L' := [some (.ref 0), some (.int x1)]) (st' := [.ref 9, .ref 16]) (M' := M) (P := True) 2 rfl trivial ?_
  refine WX.callV (ca := mi_G_copyFrom) (n := 1) (d' := 1) (st := []) (As := [.ref 9]) (q := 16) rfl lk_6_273 ck_G_copyFrom cv_G_copyFrom rfl (by decide) rfl (Nat.le_of_ble_eq_true rfl) ⟨by decide, rfl, by decide⟩ (by intro w hw; simp only [List.mem_cons, List.not_mem_nil, or_false] at hw; rcases hw with rfl <;> rfl) (Nat.le_of_ble_eq_true rfl) ?_
  exact h1
theorem sg_C_keep_0_16r23 {Q : Option Value → Mem → Prop} (M : Mem) (x1 : Int32)
    (h1 : WX mi_G_copyFrom 1 (fun rv M' => WX mi_C_keep 2 Q 23 [some (.ref 0), some (.int x1)] (rv.toList ++ []) M') 0 [some (.ref 23), some (.ref 9), none] [] M) :
    WX mi_C_keep 2 Q 16 [some (.ref 0), some (.int x1)] [.ref 23] M := by
  refine WX.run (pc' := 20) (L' := [some (.ref 0), some (.int x1)]) (st' := [.ref 9, .ref 23]) (M' := M) (P := True) 2 rfl trivial ?_
  refine WX.callV (ca := mi_G_copyFrom) (n := 1) (d' := 1) (st := []) (As := [.ref 9]) (q := 23) rfl lk_6_273 ck_G_copyFrom cv_G_copyFrom rfl (by decide) rfl (Nat.le_of_ble_eq_true rfl) ⟨by decide, rfl, by decide⟩ (by intro w hw; simp only [List.mem_cons, List.not_mem_nil, or_false] at hw; rcases hw with rfl <;> rfl) (Nat.le_of_ble_eq_true rfl) ?_
  exact h1
theorem sg_C_keep_0_23 {Q : Option Value → Mem → Prop} (M : Mem) (x1 : Int32)
    (h1 : Q (some (.int (M.1 9 4))) (wr M 0 8 ((M.1 0 8) ||| (shl 1 x1)))) :
    WX mi_C_keep 2 Q 23 [some (.ref 0), some (.int x1)] [] M := by
  refine WX.run (pc' := 42) (L' := [some (.ref 0), some (.int x1)]) (st' := [.int (M.1 9 4)]) (M' := (wr M 0 8 ((M.1 0 8) ||| (shl 1 x1)))) (P := True) 11 rfl trivial ?_
  exact WX.iret rfl rfl h1
theorem sg_C_back_0_0 {Q : Option Value → Mem → Prop} (M : Mem) (x1 : Int32)
    (h1 : x1 < 0 → Q (some (.int (-1))) M)
    (h2 : ¬ x1 < 0 → x1 < 2 → ¬ (z_C_holds (M.1 0 8) x1) = 0 → WX mi_C_imageOf 1 (fun rv M' => WX mi_C_back 2 Q 34 [some (.ref 0), some (.int x1)] (rv.toList ++ [.ref 9]) M') 0 [some (.ref 0), some (.int x1)] [] M)
    (h3 : ¬ x1 < 0 → x1 < 2 → (z_C_holds (M.1 0 8) x1) = 0 → Q (some (.int (-2))) M)
    (h4 : ¬ x1 < 0 → ¬ x1 < 2 → Q (some (.int (-1))) M) :
    WX mi_C_back 2 Q 0 [some (.ref 0), some (.int x1)] [] M := by
  refine WX.run (pc' := 1) (L' := [some (.ref 0), some (.int x1)]) (st' := [.int x1]) (M' := M) (P := True) 1 rfl trivial ?_
  refine WX.if_lt (off := 8) (tgt := 9) rfl rfl (fun c1 => ?_) (fun c1 => ?_)
  · refine WX.run (pc' := 10) (L' := [some (.ref 0), some (.int x1)]) (st' := [.int (-1)]) (M' := M) (P := True) 1 rfl trivial ?_
    exact WX.iret rfl rfl (h1 c1)
  · refine WX.run (pc' := 6) (L' := [some (.ref 0), some (.int x1)]) (st' := [.int 2, .int x1]) (M' := M) (P := True) 2 rfl trivial ?_
    refine WX.icmp_lt (off := 5) (tgt := 11) rfl rfl (fun c2 => ?_) (fun c2 => ?_)
    · refine WX.run (pc' := 16) (L' := [some (.ref 0), some (.int x1)]) (st' := [.int x1, .int (M.1 0 8)]) (M' := M) (P := True) 3 rfl trivial ?_
      refine WX.callS (ca := mi_C_holds) (n := 2) (d' := 1) (st := []) (As := [.int (M.1 0 8), .int x1]) rfl lk_6_136 ck_C_holds cs_C_holds rfl (by decide) rfl (Nat.le_of_ble_eq_true rfl) (by intro w hw; simp only [List.mem_cons, List.not_mem_nil, or_false] at hw; rcases hw with rfl | rfl <;> rfl) (Nat.le_of_ble_eq_true rfl) ?_
      refine wx_C_holds M (M.1 0 8) x1 ?_
      show WX mi_C_back 2 Q 19 [some (.ref 0), some (.int x1)] [.int (z_C_holds (M.1 0 8) x1)] M
      refine WX.if_ne (off := 6) (tgt := 25) rfl rfl (fun c3 => ?_) (fun c3 => ?_)
      · refine WX.run (pc' := 31) (L' := [some (.ref 0), some (.int x1)]) (st' := [.int x1, .ref 0, .ref 9]) (M' := M) (P := True) 4 rfl trivial ?_
        refine WX.callV (ca := mi_C_imageOf) (n := 1) (d' := 1) (st := [.ref 9]) (As := [.int x1]) (q := 0) rfl lk_6_269 ck_C_imageOf cv_C_imageOf rfl (by decide) rfl (Nat.le_of_ble_eq_true rfl) ⟨by decide, rfl, by decide⟩ (by intro w hw; simp only [List.mem_cons, List.not_mem_nil, or_false] at hw; rcases hw with rfl <;> rfl) (Nat.le_of_ble_eq_true rfl) ?_
        exact (h2 c1 c2 c3)
      · refine WX.run (pc' := 24) (L' := [some (.ref 0), some (.int x1)]) (st' := [.int (-2)]) (M' := M) (P := True) 1 rfl trivial ?_
        exact WX.iret rfl rfl (h3 c1 c2 c3)
    · refine WX.run (pc' := 10) (L' := [some (.ref 0), some (.int x1)]) (st' := [.int (-1)]) (M' := M) (P := True) 1 rfl trivial ?_
      exact WX.iret rfl rfl (h4 c1 c2)
theorem sg_C_back_0_34r16 {Q : Option Value → Mem → Prop} (M : Mem) (x1 : Int32)
    (h1 : WX mi_G_copyFrom 1 (fun rv M' => WX mi_C_back 2 Q 37 [some (.ref 0), some (.int x1)] (rv.toList ++ []) M') 0 [some (.ref 9), some (.ref 16), none] [] M) :
    WX mi_C_back 2 Q 34 [some (.ref 0), some (.int x1)] [.ref 16, .ref 9] M := by
  refine WX.callV (ca := mi_G_copyFrom) (n := 1) (d' := 1) (st := []) (As := [.ref 16]) (q := 9) rfl lk_6_273 ck_G_copyFrom cv_G_copyFrom rfl (by decide) rfl (Nat.le_of_ble_eq_true rfl) ⟨by decide, rfl, by decide⟩ (by intro w hw; simp only [List.mem_cons, List.not_mem_nil, or_false] at hw; rcases hw with rfl <;> rfl) (Nat.le_of_ble_eq_true rfl) ?_
  exact h1
theorem sg_C_back_0_34r23 {Q : Option Value → Mem → Prop} (M : Mem) (x1 : Int32)
    (h1 : WX mi_G_copyFrom 1 (fun rv M' => WX mi_C_back 2 Q 37 [some (.ref 0), some (.int x1)] (rv.toList ++ []) M') 0 [some (.ref 9), some (.ref 23), none] [] M) :
    WX mi_C_back 2 Q 34 [some (.ref 0), some (.int x1)] [.ref 23, .ref 9] M := by
  refine WX.callV (ca := mi_G_copyFrom) (n := 1) (d' := 1) (st := []) (As := [.ref 23]) (q := 9) rfl lk_6_273 ck_G_copyFrom cv_G_copyFrom rfl (by decide) rfl (Nat.le_of_ble_eq_true rfl) ⟨by decide, rfl, by decide⟩ (by intro w hw; simp only [List.mem_cons, List.not_mem_nil, or_false] at hw; rcases hw with rfl <;> rfl) (Nat.le_of_ble_eq_true rfl) ?_
  exact h1
theorem sg_C_back_0_37 {Q : Option Value → Mem → Prop} (M : Mem) (x1 : Int32)
    (h1 : Q (some (.int (M.1 9 4))) M) :
    WX mi_C_back 2 Q 37 [some (.ref 0), some (.int x1)] [] M := by
  refine WX.run (pc' := 44) (L' := [some (.ref 0), some (.int x1)]) (st' := [.int (M.1 9 4)]) (M' := M) (P := True) 3 rfl trivial ?_
  exact WX.iret rfl rfl h1
