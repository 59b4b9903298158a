/-! ===== printed by wip/gen/gen08.py: the stretches of the methods ===== -/
theorem sg_M_seam_37_0 {Q : Option Value → Mem → Prop} (M : Mem)
    (h1 : WX mi_M_seam 4 Q 4 [some (.ref 37), some (.int 0), some (.int 1), none, none, none, none, none] [] M) :
    WX mi_M_seam 4 Q 0 [some (.ref 37), none, none, none, none, none, none, none] [] M := by
  refine WX.run (pc' := 4) (L' := [some (.ref 37), some (.int 0), some (.int 1), none, none, none, none, none]) (st' := []) (M' := M) (P := True) 4 rfl trivial ?_
  exact h1
theorem sg_M_seam_37_4 {Q : Option Value → Mem → Prop} (M : Mem) (x1 x2 : Int32)
    (h1 : 2 < x2 → Q (some (.int x1)) M)
    (h2 : ¬ 2 < x2 → WX mi_M_seam 4 Q 11 [some (.ref 37), some (.int x1), some (.int x2), some (.int 0), none, none, none, none] [] M) :
    WX mi_M_seam 4 Q 4 [some (.ref 37), some (.int x1), some (.int x2), none, none, none, none, none] [] M := by
  refine WX.run (pc' := 6) (L' := [some (.ref 37), some (.int x1), some (.int x2), none, none, none, none, none]) (st' := [.int 2, .int x2]) (M' := M) (P := True) 2 rfl trivial ?_
  refine WX.icmp_gt (off := 131) (tgt := 137) rfl rfl (fun c1 => ?_) (fun c1 => ?_)
  · refine WX.run (pc' := 138) (L' := [some (.ref 37), some (.int x1), some (.int x2), none, none, none, none, none]) (st' := [.int x1]) (M' := M) (P := True) 1 rfl trivial ?_
    exact WX.iret rfl rfl (h1 c1)
  · refine WX.run (pc' := 11) (L' := [some (.ref 37), some (.int x1), some (.int x2), some (.int 0), none, none, none, none]) (st' := []) (M' := M) (P := True) 2 rfl trivial ?_
    exact (h2 c1)
theorem sg_M_seam_37_11 {Q : Option Value → Mem → Prop} (M : Mem) (x1 x2 x3 : Int32)
    (h1 : 4 ≤ x3 → WX mi_M_seam 4 Q 4 [some (.ref 37), some (.int x1), some (.int (x2 + 1)), none, none, none, none, none] [] M)
    (h2 : ¬ 4 ≤ x3 → WX mi_M_seam 4 Q 22 [some (.ref 37), some (.int x1), some (.int x2), some (.int x3), some (.int 0), some (.int 0), none, none] [] M) :
    WX mi_M_seam 4 Q 11 [some (.ref 37), some (.int x1), some (.int x2), some (.int x3), none, none, none, none] [] M := by
  refine WX.run (pc' := 13) (L' := [some (.ref 37), some (.int x1), some (.int x2), some (.int x3), none, none, none, none]) (st' := [.int 4, .int x3]) (M' := M) (P := True) 2 rfl trivial ?_
  refine WX.icmp_ge (off := 118) (tgt := 131) rfl rfl (fun c1 => ?_) (fun c1 => ?_)
  · refine WX.run (pc' := 4) (L' := [some (.ref 37), some (.int x1), some (.int (x2 + 1)), some (.int x3), none, none, none, none]) (st' := []) (M' := M) (P := True) 2 rfl trivial ?_
    refine WX.forget2 (L' := [some (.ref 37), some (.int x1), some (.int (x2 + 1)), none, none, none, none, none]) ?_ ⟨Or.inr rfl, Or.inr rfl, Or.inr rfl, Or.inl rfl, Or.inr rfl, Or.inr rfl, Or.inr rfl, Or.inr rfl, trivial⟩
    exact (h1 c1)
  · refine WX.run (pc' := 22) (L' := [some (.ref 37), some (.int x1), some (.int x2), some (.int x3), some (.int 0), some (.int 0), none, none]) (st' := []) (M' := M) (P := True) 4 rfl trivial ?_
    exact (h2 c1)
theorem sg_M_seam_37_22 {Q : Option Value → Mem → Prop} (M : Mem) (x1 x2 x3 x4 x5 : Int32)
    (h1 : 4 ≤ x5 → WX mi_M_seam 4 Q 11 [some (.ref 37), some (.int x1), some (.int x2), some (.int (x3 + 1)), none, none, none, none] [] M)
    (b2 : ¬ 4 ≤ x5 → ¬ x2 = 1 → ((z_M_isCell_37 M (rem ((4 * x3) + x5) 4) (((4 * x3) + x5) / 4)) = 0 ∨ (z_M_isCell_37 M (rem ((4 * x3) + x5) 4) (((4 * x3) + x5) / 4)) = 1))
    (h3 : ¬ 4 ≤ x5 → ¬ x2 = 1 → (z_M_isThere_37 M ((4 * x3) + x5)) = 0 → 0 ≤ x1 → WX mi_M_seam 4 Q 22 [some (.ref 37), some (.int x1), some (.int x2), some (.int x3), some (.int 0), some (.int (x5 + 1)), none, none] [] M)
    (h4 : ¬ 4 ≤ x5 → ¬ x2 = 1 → (z_M_isThere_37 M ((4 * x3) + x5)) = 0 → ¬ 0 ≤ x1 → WX mi_M_seam 4 Q 22 [some (.ref 37), some (.int 0), some (.int x2), some (.int x3), some (.int 0), some (.int (x5 + 1)), none, none] [] M)
    (h5 : ¬ 4 ≤ x5 → ¬ x2 = 1 → ¬ (z_M_isThere_37 M ((4 * x3) + x5)) = 0 → (z_M_beside_37 M ((4 * x3) + x5) x2) = (-9) → 0 ≤ x1 → WX mi_M_seam 4 Q 22 [some (.ref 37), some (.int x1), some (.int x2), some (.int x3), some (.int 0), some (.int (x5 + 1)), none, none] [] M)
    (h6 : ¬ 4 ≤ x5 → ¬ x2 = 1 → ¬ (z_M_isThere_37 M ((4 * x3) + x5)) = 0 → (z_M_beside_37 M ((4 * x3) + x5) x2) = (-9) → ¬ 0 ≤ x1 → WX mi_M_seam 4 Q 22 [some (.ref 37), some (.int 0), some (.int x2), some (.int x3), some (.int 0), some (.int (x5 + 1)), none, none] [] M)
    (b7 : ¬ 4 ≤ x5 → ¬ x2 = 1 → ¬ (z_M_isThere_37 M ((4 * x3) + x5)) = 0 → ¬ (z_M_beside_37 M ((4 * x3) + x5) x2) = (-9) → vp_in (16 + ((4 * x3) + x5)) 1257)
    (b8 : ¬ 4 ≤ x5 → ¬ x2 = 1 → ¬ (z_M_isThere_37 M ((4 * x3) + x5)) = 0 → ¬ (z_M_beside_37 M ((4 * x3) + x5) x2) = (-9) → ¬ (M.1 46 (16 + ((4 * x3) + x5)).toNatClampNeg) = (-9) → vp_in (16 + (z_M_beside_37 M ((4 * x3) + x5) x2)) 1257)
    (b9 : ¬ 4 ≤ x5 → ¬ x2 = 1 → ¬ (z_M_isThere_37 M ((4 * x3) + x5)) = 0 → ¬ (z_M_beside_37 M ((4 * x3) + x5) x2) = (-9) → ¬ (M.1 46 (16 + ((4 * x3) + x5)).toNatClampNeg) = (-9) → ¬ (M.1 46 (16 + (z_M_beside_37 M ((4 * x3) + x5) x2)).toNatClampNeg) = (-9) → vp_in (16 + ((4 * x3) + x5)) 1257)
    (b10 : ¬ 4 ≤ x5 → ¬ x2 = 1 → ¬ (z_M_isThere_37 M ((4 * x3) + x5)) = 0 → ¬ (z_M_beside_37 M ((4 * x3) + x5) x2) = (-9) → ¬ (M.1 46 (16 + ((4 * x3) + x5)).toNatClampNeg) = (-9) → ¬ (M.1 46 (16 + (z_M_beside_37 M ((4 * x3) + x5) x2)).toNatClampNeg) = (-9) → vp_in (16 + (z_M_beside_37 M ((4 * x3) + x5) x2)) 1257)
    (h11 : ¬ 4 ≤ x5 → ¬ x2 = 1 → ¬ (z_M_isThere_37 M ((4 * x3) + x5)) = 0 → ¬ (z_M_beside_37 M ((4 * x3) + x5) x2) = (-9) → (z_M_part_46 M 16 ((4 * x3) + x5) (z_M_beside_37 M ((4 * x3) + x5) x2)) = 0 → 0 ≤ x1 → WX mi_M_seam 4 Q 22 [some (.ref 37), some (.int x1), some (.int x2), some (.int x3), some (.int 0), some (.int (x5 + 1)), none, none] [] M)
    (h12 : ¬ 4 ≤ x5 → ¬ x2 = 1 → ¬ (z_M_isThere_37 M ((4 * x3) + x5)) = 0 → ¬ (z_M_beside_37 M ((4 * x3) + x5) x2) = (-9) → (z_M_part_46 M 16 ((4 * x3) + x5) (z_M_beside_37 M ((4 * x3) + x5) x2)) = 0 → ¬ 0 ≤ x1 → WX mi_M_seam 4 Q 22 [some (.ref 37), some (.int 0), some (.int x2), some (.int x3), some (.int 0), some (.int (x5 + 1)), none, none] [] M)
    (h13 : ¬ 4 ≤ x5 → ¬ x2 = 1 → ¬ (z_M_isThere_37 M ((4 * x3) + x5)) = 0 → ¬ (z_M_beside_37 M ((4 * x3) + x5) x2) = (-9) → ¬ (z_M_part_46 M 16 ((4 * x3) + x5) (z_M_beside_37 M ((4 * x3) + x5) x2)) = 0 → (x4 + 1) ≤ x1 → WX mi_M_seam 4 Q 22 [some (.ref 37), some (.int x1), some (.int x2), some (.int x3), some (.int (x4 + 1)), some (.int (x5 + 1)), none, none] [] M)
    (h14 : ¬ 4 ≤ x5 → ¬ x2 = 1 → ¬ (z_M_isThere_37 M ((4 * x3) + x5)) = 0 → ¬ (z_M_beside_37 M ((4 * x3) + x5) x2) = (-9) → ¬ (z_M_part_46 M 16 ((4 * x3) + x5) (z_M_beside_37 M ((4 * x3) + x5) x2)) = 0 → ¬ (x4 + 1) ≤ x1 → WX mi_M_seam 4 Q 22 [some (.ref 37), some (.int (x4 + 1)), some (.int x2), some (.int x3), some (.int (x4 + 1)), some (.int (x5 + 1)), none, none] [] M)
    (b15 : ¬ 4 ≤ x5 → x2 = 1 → ((z_M_isCell_37 M (rem ((4 * x5) + x3) 4) (((4 * x5) + x3) / 4)) = 0 ∨ (z_M_isCell_37 M (rem ((4 * x5) + x3) 4) (((4 * x5) + x3) / 4)) = 1))
    (h16 : ¬ 4 ≤ x5 → x2 = 1 → (z_M_isThere_37 M ((4 * x5) + x3)) = 0 → 0 ≤ x1 → WX mi_M_seam 4 Q 22 [some (.ref 37), some (.int x1), some (.int x2), some (.int x3), some (.int 0), some (.int (x5 + 1)), none, none] [] M)
    (h17 : ¬ 4 ≤ x5 → x2 = 1 → (z_M_isThere_37 M ((4 * x5) + x3)) = 0 → ¬ 0 ≤ x1 → WX mi_M_seam 4 Q 22 [some (.ref 37), some (.int 0), some (.int x2), some (.int x3), some (.int 0), some (.int (x5 + 1)), none, none] [] M)
    (h18 : ¬ 4 ≤ x5 → x2 = 1 → ¬ (z_M_isThere_37 M ((4 * x5) + x3)) = 0 → (z_M_beside_37 M ((4 * x5) + x3) x2) = (-9) → 0 ≤ x1 → WX mi_M_seam 4 Q 22 [some (.ref 37), some (.int x1), some (.int x2), some (.int x3), some (.int 0), some (.int (x5 + 1)), none, none] [] M)
    (h19 : ¬ 4 ≤ x5 → x2 = 1 → ¬ (z_M_isThere_37 M ((4 * x5) + x3)) = 0 → (z_M_beside_37 M ((4 * x5) + x3) x2) = (-9) → ¬ 0 ≤ x1 → WX mi_M_seam 4 Q 22 [some (.ref 37), some (.int 0), some (.int x2), some (.int x3), some (.int 0), some (.int (x5 + 1)), none, none] [] M)
    (b20 : ¬ 4 ≤ x5 → x2 = 1 → ¬ (z_M_isThere_37 M ((4 * x5) + x3)) = 0 → ¬ (z_M_beside_37 M ((4 * x5) + x3) x2) = (-9) → vp_in (16 + ((4 * x5) + x3)) 1257)
    (b21 : ¬ 4 ≤ x5 → x2 = 1 → ¬ (z_M_isThere_37 M ((4 * x5) + x3)) = 0 → ¬ (z_M_beside_37 M ((4 * x5) + x3) x2) = (-9) → ¬ (M.1 46 (16 + ((4 * x5) + x3)).toNatClampNeg) = (-9) → vp_in (16 + (z_M_beside_37 M ((4 * x5) + x3) x2)) 1257)
    (b22 : ¬ 4 ≤ x5 → x2 = 1 → ¬ (z_M_isThere_37 M ((4 * x5) + x3)) = 0 → ¬ (z_M_beside_37 M ((4 * x5) + x3) x2) = (-9) → ¬ (M.1 46 (16 + ((4 * x5) + x3)).toNatClampNeg) = (-9) → ¬ (M.1 46 (16 + (z_M_beside_37 M ((4 * x5) + x3) x2)).toNatClampNeg) = (-9) → vp_in (16 + ((4 * x5) + x3)) 1257)
    (b23 : ¬ 4 ≤ x5 → x2 = 1 → ¬ (z_M_isThere_37 M ((4 * x5) + x3)) = 0 → ¬ (z_M_beside_37 M ((4 * x5) + x3) x2) = (-9) → ¬ (M.1 46 (16 + ((4 * x5) + x3)).toNatClampNeg) = (-9) → ¬ (M.1 46 (16 + (z_M_beside_37 M ((4 * x5) + x3) x2)).toNatClampNeg) = (-9) → vp_in (16 + (z_M_beside_37 M ((4 * x5) + x3) x2)) 1257)
    (h24 : ¬ 4 ≤ x5 → x2 = 1 → ¬ (z_M_isThere_37 M ((4 * x5) + x3)) = 0 → ¬ (z_M_beside_37 M ((4 * x5) + x3) x2) = (-9) → (z_M_part_46 M 16 ((4 * x5) + x3) (z_M_beside_37 M ((4 * x5) + x3) x2)) = 0 → 0 ≤ x1 → WX mi_M_seam 4 Q 22 [some (.ref 37), some (.int x1), some (.int x2), some (.int x3), some (.int 0), some (.int (x5 + 1)), none, none] [] M)
    (h25 : ¬ 4 ≤ x5 → x2 = 1 → ¬ (z_M_isThere_37 M ((4 * x5) + x3)) = 0 → ¬ (z_M_beside_37 M ((4 * x5) + x3) x2) = (-9) → (z_M_part_46 M 16 ((4 * x5) + x3) (z_M_beside_37 M ((4 * x5) + x3) x2)) = 0 → ¬ 0 ≤ x1 → WX mi_M_seam 4 Q 22 [some (.ref 37), some (.int 0), some (.int x2), some (.int x3), some (.int 0), some (.int (x5 + 1)), none, none] [] M)
    (h26 : ¬ 4 ≤ x5 → x2 = 1 → ¬ (z_M_isThere_37 M ((4 * x5) + x3)) = 0 → ¬ (z_M_beside_37 M ((4 * x5) + x3) x2) = (-9) → ¬ (z_M_part_46 M 16 ((4 * x5) + x3) (z_M_beside_37 M ((4 * x5) + x3) x2)) = 0 → (x4 + 1) ≤ x1 → WX mi_M_seam 4 Q 22 [some (.ref 37), some (.int x1), some (.int x2), some (.int x3), some (.int (x4 + 1)), some (.int (x5 + 1)), none, none] [] M)
    (h27 : ¬ 4 ≤ x5 → x2 = 1 → ¬ (z_M_isThere_37 M ((4 * x5) + x3)) = 0 → ¬ (z_M_beside_37 M ((4 * x5) + x3) x2) = (-9) → ¬ (z_M_part_46 M 16 ((4 * x5) + x3) (z_M_beside_37 M ((4 * x5) + x3) x2)) = 0 → ¬ (x4 + 1) ≤ x1 → WX mi_M_seam 4 Q 22 [some (.ref 37), some (.int (x4 + 1)), some (.int x2), some (.int x3), some (.int (x4 + 1)), some (.int (x5 + 1)), none, none] [] M) :
    WX mi_M_seam 4 Q 22 [some (.ref 37), some (.int x1), some (.int x2), some (.int x3), some (.int x4), some (.int x5), none, none] [] M := by
  refine WX.run (pc' := 25) (L' := [some (.ref 37), some (.int x1), some (.int x2), some (.int x3), some (.int x4), some (.int x5), none, none]) (st' := [.int 4, .int x5]) (M' := M) (P := True) 2 rfl trivial ?_
  refine WX.icmp_ge (off := 100) (tgt := 125) rfl rfl (fun c1 => ?_) (fun c1 => ?_)
  · refine WX.run (pc' := 11) (L' := [some (.ref 37), some (.int x1), some (.int x2), some (.int (x3 + 1)), some (.int x4), some (.int x5), none, none]) (st' := []) (M' := M) (P := True) 2 rfl trivial ?_
    refine WX.forget2 (L' := [some (.ref 37), some (.int x1), some (.int x2), some (.int (x3 + 1)), none, none, none, none]) ?_ ⟨Or.inr rfl, Or.inr rfl, Or.inr rfl, Or.inr rfl, Or.inl rfl, Or.inl rfl, Or.inr rfl, Or.inr rfl, trivial⟩
    exact (h1 c1)
  · refine WX.run (pc' := 30) (L' := [some (.ref 37), some (.int x1), some (.int x2), some (.int x3), some (.int x4), some (.int x5), none, none]) (st' := [.int 1, .int x2]) (M' := M) (P := True) 2 rfl trivial ?_
    refine WX.icmp_ne (off := 12) (tgt := 42) rfl rfl (fun c2 => ?_) (fun c2 => ?_)
    · refine WX.run (pc' := 53) (L' := [some (.ref 37), some (.int x1), some (.int x2), some (.int x3), some (.int x4), some (.int x5), some (.int ((4 * x3) + x5)), none]) (st' := [.int ((4 * x3) + x5), .ref 37]) (M' := M) (P := True) 8 rfl trivial ?_
      refine WX.callV (ca := mi_M_isThere) (n := 1) (d' := 3) (st := []) (As := [.int ((4 * x3) + x5)]) (q := 37) rfl lk_7_148 ck_M_isThere cv_M_isThere rfl (by decide) rfl (Nat.le_of_ble_eq_true rfl) ⟨by decide, rfl, by decide⟩ (by intro w hw; simp only [List.mem_cons, List.not_mem_nil, or_false] at hw; rcases hw with rfl <;> rfl) (Nat.le_of_ble_eq_true rfl) ?_
      refine wx_M_isThere_37 M ((4 * x3) + x5) (b2 c1 c2) ?_
      show WX mi_M_seam 4 Q 56 [some (.ref 37), some (.int x1), some (.int x2), some (.int x3), some (.int x4), some (.int x5), some (.int ((4 * x3) + x5)), none] [.int (z_M_isThere_37 M ((4 * x3) + x5))] M
      refine WX.if_eq (off := 13) (tgt := 69) rfl rfl (fun c3 => ?_) (fun c3 => ?_)
      · refine WX.run (pc' := 77) (L' := [some (.ref 37), some (.int x1), some (.int x2), some (.int x3), some (.int x4), some (.int x5), some (.int ((4 * x3) + x5)), some (.int (-9))]) (st' := [.int (-9), .int (-9)]) (M' := M) (P := True) 4 rfl trivial ?_
        refine WX.icmp_eq (off := 26) (tgt := 103) rfl rfl (fun _ => ?_) (fun c => absurd (by decide) c)
        refine WX.run (pc' := 109) (L' := [some (.ref 37), some (.int x1), some (.int x2), some (.int x3), some (.int 0), some (.int x5), some (.int ((4 * x3) + x5)), some (.int (-9))]) (st' := [.int x1, .int 0]) (M' := M) (P := True) 4 rfl trivial ?_
        refine WX.icmp_le (off := 8) (tgt := 117) rfl rfl (fun c4 => ?_) (fun c4 => ?_)
        · refine WX.run (pc' := 22) (L' := [some (.ref 37), some (.int x1), some (.int x2), some (.int x3), some (.int 0), some (.int (x5 + 1)), some (.int ((4 * x3) + x5)), some (.int (-9))]) (st' := []) (M' := M) (P := True) 4 rfl trivial ?_
          refine WX.forget2 (L' := [some (.ref 37), some (.int x1), some (.int x2), some (.int x3), some (.int 0), some (.int (x5 + 1)), none, none]) ?_ ⟨Or.inr rfl, Or.inr rfl, Or.inr rfl, Or.inr rfl, Or.inr rfl, Or.inr rfl, Or.inl rfl, Or.inl rfl, trivial⟩
          exact (h3 c1 c2 c3 c4)
        · refine WX.run (pc' := 22) (L' := [some (.ref 37), some (.int 0), some (.int x2), some (.int x3), some (.int 0), some (.int (x5 + 1)), some (.int ((4 * x3) + x5)), some (.int (-9))]) (st' := []) (M' := M) (P := True) 5 rfl trivial ?_
          refine WX.forget2 (L' := [some (.ref 37), some (.int 0), some (.int x2), some (.int x3), some (.int 0), some (.int (x5 + 1)), none, none]) ?_ ⟨Or.inr rfl, Or.inr rfl, Or.inr rfl, Or.inr rfl, Or.inr rfl, Or.inr rfl, Or.inl rfl, Or.inl rfl, trivial⟩
          exact (h4 c1 c2 c3 c4)
      · refine WX.run (pc' := 63) (L' := [some (.ref 37), some (.int x1), some (.int x2), some (.int x3), some (.int x4), some (.int x5), some (.int ((4 * x3) + x5)), none]) (st' := [.int x2, .int ((4 * x3) + x5), .ref 37]) (M' := M) (P := True) 3 rfl trivial ?_
        refine WX.callV (ca := mi_M_beside) (n := 2) (d' := 3) (st := []) (As := [.int ((4 * x3) + x5), .int x2]) (q := 37) rfl lk_7_169 ck_M_beside cv_M_beside rfl (by decide) rfl (Nat.le_of_ble_eq_true rfl) ⟨by decide, rfl, by decide⟩ (by intro w hw; simp only [List.mem_cons, List.not_mem_nil, or_false] at hw; rcases hw with rfl | rfl <;> rfl) (Nat.le_of_ble_eq_true rfl) ?_
        refine wx_M_beside_37 M ((4 * x3) + x5) x2 ?_
        show WX mi_M_seam 4 Q 66 [some (.ref 37), some (.int x1), some (.int x2), some (.int x3), some (.int x4), some (.int x5), some (.int ((4 * x3) + x5)), none] [.int (z_M_beside_37 M ((4 * x3) + x5) x2)] M
        refine WX.run (pc' := 77) (L' := [some (.ref 37), some (.int x1), some (.int x2), some (.int x3), some (.int x4), some (.int x5), some (.int ((4 * x3) + x5)), some (.int (z_M_beside_37 M ((4 * x3) + x5) x2))]) (st' := [.int (-9), .int (z_M_beside_37 M ((4 * x3) + x5) x2)]) (M' := M) (P := True) 4 rfl trivial ?_
        refine WX.icmp_eq (off := 26) (tgt := 103) rfl rfl (fun c5 => ?_) (fun c5 => ?_)
        · refine WX.run (pc' := 109) (L' := [some (.ref 37), some (.int x1), some (.int x2), some (.int x3), some (.int 0), some (.int x5), some (.int ((4 * x3) + x5)), some (.int (z_M_beside_37 M ((4 * x3) + x5) x2))]) (st' := [.int x1, .int 0]) (M' := M) (P := True) 4 rfl trivial ?_
          refine WX.icmp_le (off := 8) (tgt := 117) rfl rfl (fun c6 => ?_) (fun c6 => ?_)
          · refine WX.run (pc' := 22) (L' := [some (.ref 37), some (.int x1), some (.int x2), some (.int x3), some (.int 0), some (.int (x5 + 1)), some (.int ((4 * x3) + x5)), some (.int (z_M_beside_37 M ((4 * x3) + x5) x2))]) (st' := []) (M' := M) (P := True) 4 rfl trivial ?_
            refine WX.forget2 (L' := [some (.ref 37), some (.int x1), some (.int x2), some (.int x3), some (.int 0), some (.int (x5 + 1)), none, none]) ?_ ⟨Or.inr rfl, Or.inr rfl, Or.inr rfl, Or.inr rfl, Or.inr rfl, Or.inr rfl, Or.inl rfl, Or.inl rfl, trivial⟩
            exact (h5 c1 c2 c3 c5 c6)
          · refine WX.run (pc' := 22) (L' := [some (.ref 37), some (.int 0), some (.int x2), some (.int x3), some (.int 0), some (.int (x5 + 1)), some (.int ((4 * x3) + x5)), some (.int (z_M_beside_37 M ((4 * x3) + x5) x2))]) (st' := []) (M' := M) (P := True) 5 rfl trivial ?_
            refine WX.forget2 (L' := [some (.ref 37), some (.int 0), some (.int x2), some (.int x3), some (.int 0), some (.int (x5 + 1)), none, none]) ?_ ⟨Or.inr rfl, Or.inr rfl, Or.inr rfl, Or.inr rfl, Or.inr rfl, Or.inr rfl, Or.inl rfl, Or.inl rfl, trivial⟩
            exact (h6 c1 c2 c3 c5 c6)
        · refine WX.run (pc' := 90) (L' := [some (.ref 37), some (.int x1), some (.int x2), some (.int x3), some (.int x4), some (.int x5), some (.int ((4 * x3) + x5)), some (.int (z_M_beside_37 M ((4 * x3) + x5) x2))]) (st' := [.int (z_M_beside_37 M ((4 * x3) + x5) x2), .int ((4 * x3) + x5), .int 16, .ref 46]) (M' := M) (P := True) 5 rfl trivial ?_
          refine WX.callS (ca := mi_M_part) (n := 4) (d' := 1) (st := []) (As := [.ref 46, .int 16, .int ((4 * x3) + x5), .int (z_M_beside_37 M ((4 * x3) + x5) x2)]) rfl lk_7_165 ck_M_part cs_M_part rfl (by decide) rfl (Nat.le_of_ble_eq_true rfl) (by intro w hw; simp only [List.mem_cons, List.not_mem_nil, or_false] at hw; rcases hw with rfl | rfl | rfl | rfl <;> rfl) (Nat.le_of_ble_eq_true rfl) ?_
          refine wx_M_part_46 M 16 ((4 * x3) + x5) (z_M_beside_37 M ((4 * x3) + x5) x2) (b7 c1 c2 c3 c5) (b8 c1 c2 c3 c5) (b9 c1 c2 c3 c5) (b10 c1 c2 c3 c5) ?_
          show WX mi_M_seam 4 Q 93 [some (.ref 37), some (.int x1), some (.int x2), some (.int x3), some (.int x4), some (.int x5), some (.int ((4 * x3) + x5)), some (.int (z_M_beside_37 M ((4 * x3) + x5) x2))] [.int (z_M_part_46 M 16 ((4 * x3) + x5) (z_M_beside_37 M ((4 * x3) + x5) x2))] M
          refine WX.if_eq (off := 10) (tgt := 103) rfl rfl (fun c7 => ?_) (fun c7 => ?_)
          · refine WX.run (pc' := 109) (L' := [some (.ref 37), some (.int x1), some (.int x2), some (.int x3), some (.int 0), some (.int x5), some (.int ((4 * x3) + x5)), some (.int (z_M_beside_37 M ((4 * x3) + x5) x2))]) (st' := [.int x1, .int 0]) (M' := M) (P := True) 4 rfl trivial ?_
            refine WX.icmp_le (off := 8) (tgt := 117) rfl rfl (fun c8 => ?_) (fun c8 => ?_)
            · refine WX.run (pc' := 22) (L' := [some (.ref 37), some (.int x1), some (.int x2), some (.int x3), some (.int 0), some (.int (x5 + 1)), some (.int ((4 * x3) + x5)), some (.int (z_M_beside_37 M ((4 * x3) + x5) x2))]) (st' := []) (M' := M) (P := True) 4 rfl trivial ?_
              refine WX.forget2 (L' := [some (.ref 37), some (.int x1), some (.int x2), some (.int x3), some (.int 0), some (.int (x5 + 1)), none, none]) ?_ ⟨Or.inr rfl, Or.inr rfl, Or.inr rfl, Or.inr rfl, Or.inr rfl, Or.inr rfl, Or.inl rfl, Or.inl rfl, trivial⟩
              exact (h11 c1 c2 c3 c5 c7 c8)
            · refine WX.run (pc' := 22) (L' := [some (.ref 37), some (.int 0), some (.int x2), some (.int x3), some (.int 0), some (.int (x5 + 1)), some (.int ((4 * x3) + x5)), some (.int (z_M_beside_37 M ((4 * x3) + x5) x2))]) (st' := []) (M' := M) (P := True) 5 rfl trivial ?_
              refine WX.forget2 (L' := [some (.ref 37), some (.int 0), some (.int x2), some (.int x3), some (.int 0), some (.int (x5 + 1)), none, none]) ?_ ⟨Or.inr rfl, Or.inr rfl, Or.inr rfl, Or.inr rfl, Or.inr rfl, Or.inr rfl, Or.inl rfl, Or.inl rfl, trivial⟩
              exact (h12 c1 c2 c3 c5 c7 c8)
          · refine WX.run (pc' := 109) (L' := [some (.ref 37), some (.int x1), some (.int x2), some (.int x3), some (.int (x4 + 1)), some (.int x5), some (.int ((4 * x3) + x5)), some (.int (z_M_beside_37 M ((4 * x3) + x5) x2))]) (st' := [.int x1, .int (x4 + 1)]) (M' := M) (P := True) 7 rfl trivial ?_
            refine WX.icmp_le (off := 8) (tgt := 117) rfl rfl (fun c9 => ?_) (fun c9 => ?_)
            · refine WX.run (pc' := 22) (L' := [some (.ref 37), some (.int x1), some (.int x2), some (.int x3), some (.int (x4 + 1)), some (.int (x5 + 1)), some (.int ((4 * x3) + x5)), some (.int (z_M_beside_37 M ((4 * x3) + x5) x2))]) (st' := []) (M' := M) (P := True) 4 rfl trivial ?_
              refine WX.forget2 (L' := [some (.ref 37), some (.int x1), some (.int x2), some (.int x3), some (.int (x4 + 1)), some (.int (x5 + 1)), none, none]) ?_ ⟨Or.inr rfl, Or.inr rfl, Or.inr rfl, Or.inr rfl, Or.inr rfl, Or.inr rfl, Or.inl rfl, Or.inl rfl, trivial⟩
              exact (h13 c1 c2 c3 c5 c7 c9)
            · refine WX.run (pc' := 22) (L' := [some (.ref 37), some (.int (x4 + 1)), some (.int x2), some (.int x3), some (.int (x4 + 1)), some (.int (x5 + 1)), some (.int ((4 * x3) + x5)), some (.int (z_M_beside_37 M ((4 * x3) + x5) x2))]) (st' := []) (M' := M) (P := True) 5 rfl trivial ?_
              refine WX.forget2 (L' := [some (.ref 37), some (.int (x4 + 1)), some (.int x2), some (.int x3), some (.int (x4 + 1)), some (.int (x5 + 1)), none, none]) ?_ ⟨Or.inr rfl, Or.inr rfl, Or.inr rfl, Or.inr rfl, Or.inr rfl, Or.inr rfl, Or.inl rfl, Or.inl rfl, trivial⟩
              exact (h14 c1 c2 c3 c5 c7 c9)
    · refine WX.run (pc' := 53) (L' := [some (.ref 37), some (.int x1), some (.int x2), some (.int x3), some (.int x4), some (.int x5), some (.int ((4 * x5) + x3)), none]) (st' := [.int ((4 * x5) + x3), .ref 37]) (M' := M) (P := True) 9 rfl trivial ?_
      refine WX.callV (ca := mi_M_isThere) (n := 1) (d' := 3) (st := []) (As := [.int ((4 * x5) + x3)]) (q := 37) rfl lk_7_148 ck_M_isThere cv_M_isThere rfl (by decide) rfl (Nat.le_of_ble_eq_true rfl) ⟨by decide, rfl, by decide⟩ (by intro w hw; simp only [List.mem_cons, List.not_mem_nil, or_false] at hw; rcases hw with rfl <;> rfl) (Nat.le_of_ble_eq_true rfl) ?_
      refine wx_M_isThere_37 M ((4 * x5) + x3) (b15 c1 c2) ?_
      show WX mi_M_seam 4 Q 56 [some (.ref 37), some (.int x1), some (.int x2), some (.int x3), some (.int x4), some (.int x5), some (.int ((4 * x5) + x3)), none] [.int (z_M_isThere_37 M ((4 * x5) + x3))] M
      refine WX.if_eq (off := 13) (tgt := 69) rfl rfl (fun c10 => ?_) (fun c10 => ?_)
      · refine WX.run (pc' := 77) (L' := [some (.ref 37), some (.int x1), some (.int x2), some (.int x3), some (.int x4), some (.int x5), some (.int ((4 * x5) + x3)), some (.int (-9))]) (st' := [.int (-9), .int (-9)]) (M' := M) (P := True) 4 rfl trivial ?_
        refine WX.icmp_eq (off := 26) (tgt := 103) rfl rfl (fun _ => ?_) (fun c => absurd (by decide) c)
        refine WX.run (pc' := 109) (L' := [some (.ref 37), some (.int x1), some (.int x2), some (.int x3), some (.int 0), some (.int x5), some (.int ((4 * x5) + x3)), some (.int (-9))]) (st' := [.int x1, .int 0]) (M' := M) (P := True) 4 rfl trivial ?_
        refine WX.icmp_le (off := 8) (tgt := 117) rfl rfl (fun c11 => ?_) (fun c11 => ?_)
        · refine WX.run (pc' := 22) (L' := [some (.ref 37), some (.int x1), some (.int x2), some (.int x3), some (.int 0), some (.int (x5 + 1)), some (.int ((4 * x5) + x3)), some (.int (-9))]) (st' := []) (M' := M) (P := True) 4 rfl trivial ?_
          refine WX.forget2 (L' := [some (.ref 37), some (.int x1), some (.int x2), some (.int x3), some (.int 0), some (.int (x5 + 1)), none, none]) ?_ ⟨Or.inr rfl, Or.inr rfl, Or.inr rfl, Or.inr rfl, Or.inr rfl, Or.inr rfl, Or.inl rfl, Or.inl rfl, trivial⟩
          exact (h16 c1 c2 c10 c11)
        · refine WX.run (pc' := 22) (L' := [some (.ref 37), some (.int 0), some (.int x2), some (.int x3), some (.int 0), some (.int (x5 + 1)), some (.int ((4 * x5) + x3)), some (.int (-9))]) (st' := []) (M' := M) (P := True) 5 rfl trivial ?_
          refine WX.forget2 (L' := [some (.ref 37), some (.int 0), some (.int x2), some (.int x3), some (.int 0), some (.int (x5 + 1)), none, none]) ?_ ⟨Or.inr rfl, Or.inr rfl, Or.inr rfl, Or.inr rfl, Or.inr rfl, Or.inr rfl, Or.inl rfl, Or.inl rfl, trivial⟩
          exact (h17 c1 c2 c10 c11)
      · refine WX.run (pc' := 63) (L' := [some (.ref 37), some (.int x1), some (.int x2), some (.int x3), some (.int x4), some (.int x5), some (.int ((4 * x5) + x3)), none]) (st' := [.int x2, .int ((4 * x5) + x3), .ref 37]) (M' := M) (P := True) 3 rfl trivial ?_
        refine WX.callV (ca := mi_M_beside) (n := 2) (d' := 3) (st := []) (As := [.int ((4 * x5) + x3), .int x2]) (q := 37) rfl lk_7_169 ck_M_beside cv_M_beside rfl (by decide) rfl (Nat.le_of_ble_eq_true rfl) ⟨by decide, rfl, by decide⟩ (by intro w hw; simp only [List.mem_cons, List.not_mem_nil, or_false] at hw; rcases hw with rfl | rfl <;> rfl) (Nat.le_of_ble_eq_true rfl) ?_
        refine wx_M_beside_37 M ((4 * x5) + x3) x2 ?_
        show WX mi_M_seam 4 Q 66 [some (.ref 37), some (.int x1), some (.int x2), some (.int x3), some (.int x4), some (.int x5), some (.int ((4 * x5) + x3)), none] [.int (z_M_beside_37 M ((4 * x5) + x3) x2)] M
        refine WX.run (pc' := 77) (L' := [some (.ref 37), some (.int x1), some (.int x2), some (.int x3), some (.int x4), some (.int x5), some (.int ((4 * x5) + x3)), some (.int (z_M_beside_37 M ((4 * x5) + x3) x2))]) (st' := [.int (-9), .int (z_M_beside_37 M ((4 * x5) + x3) x2)]) (M' := M) (P := True) 4 rfl trivial ?_
        refine WX.icmp_eq (off := 26) (tgt := 103) rfl rfl (fun c12 => ?_) (fun c12 => ?_)
        · refine WX.run (pc' := 109) (L' := [some (.ref 37), some (.int x1), some (.int x2), some (.int x3), some (.int 0), some (.int x5), some (.int ((4 * x5) + x3)), some (.int (z_M_beside_37 M ((4 * x5) + x3) x2))]) (st' := [.int x1, .int 0]) (M' := M) (P := True) 4 rfl trivial ?_
          refine WX.icmp_le (off := 8) (tgt := 117) rfl rfl (fun c13 => ?_) (fun c13 => ?_)
          · refine WX.run (pc' := 22) (L' := [some (.ref 37), some (.int x1), some (.int x2), some (.int x3), some (.int 0), some (.int (x5 + 1)), some (.int ((4 * x5) + x3)), some (.int (z_M_beside_37 M ((4 * x5) + x3) x2))]) (st' := []) (M' := M) (P := True) 4 rfl trivial ?_
            refine WX.forget2 (L' := [some (.ref 37), some (.int x1), some (.int x2), some (.int x3), some (.int 0), some (.int (x5 + 1)), none, none]) ?_ ⟨Or.inr rfl, Or.inr rfl, Or.inr rfl, Or.inr rfl, Or.inr rfl, Or.inr rfl, Or.inl rfl, Or.inl rfl, trivial⟩
            exact (h18 c1 c2 c10 c12 c13)
          · refine WX.run (pc' := 22) (L' := [some (.ref 37), some (.int 0), some (.int x2), some (.int x3), some (.int 0), some (.int (x5 + 1)), some (.int ((4 * x5) + x3)), some (.int (z_M_beside_37 M ((4 * x5) + x3) x2))]) (st' := []) (M' := M) (P := True) 5 rfl trivial ?_
            refine WX.forget2 (L' := [some (.ref 37), some (.int 0), some (.int x2), some (.int x3), some (.int 0), some (.int (x5 + 1)), none, none]) ?_ ⟨Or.inr rfl, Or.inr rfl, Or.inr rfl, Or.inr rfl, Or.inr rfl, Or.inr rfl, Or.inl rfl, Or.inl rfl, trivial⟩
            exact (h19 c1 c2 c10 c12 c13)
        · refine WX.run (pc' := 90) (L' := [some (.ref 37), some (.int x1), some (.int x2), some (.int x3), some (.int x4), some (.int x5), some (.int ((4 * x5) + x3)), some (.int (z_M_beside_37 M ((4 * x5) + x3) x2))]) (st' := [.int (z_M_beside_37 M ((4 * x5) + x3) x2), .int ((4 * x5) + x3), .int 16, .ref 46]) (M' := M) (P := True) 5 rfl trivial ?_
          refine WX.callS (ca := mi_M_part) (n := 4) (d' := 1) (st := []) (As := [.ref 46, .int 16, .int ((4 * x5) + x3), .int (z_M_beside_37 M ((4 * x5) + x3) x2)]) rfl lk_7_165 ck_M_part cs_M_part rfl (by decide) rfl (Nat.le_of_ble_eq_true rfl) (by intro w hw; simp only [List.mem_cons, List.not_mem_nil, or_false] at hw; rcases hw with rfl | rfl | rfl | rfl <;> rfl) (Nat.le_of_ble_eq_true rfl) ?_
          refine wx_M_part_46 M 16 ((4 * x5) + x3) (z_M_beside_37 M ((4 * x5) + x3) x2) (b20 c1 c2 c10 c12) (b21 c1 c2 c10 c12) (b22 c1 c2 c10 c12) (b23 c1 c2 c10 c12) ?_
          show WX mi_M_seam 4 Q 93 [some (.ref 37), some (.int x1), some (.int x2), some (.int x3), some (.int x4), some (.int x5), some (.int ((4 * x5) + x3)), some (.int (z_M_beside_37 M ((4 * x5) + x3) x2))] [.int (z_M_part_46 M 16 ((4 * x5) + x3) (z_M_beside_37 M ((4 * x5) + x3) x2))] M
          refine WX.if_eq (off := 10) (tgt := 103) rfl rfl (fun c14 => ?_) (fun c14 => ?_)
          · refine WX.run (pc' := 109) (L' := [some (.ref 37), some (.int x1), some (.int x2), some (.int x3), some (.int 0), some (.int x5), some (.int ((4 * x5) + x3)), some (.int (z_M_beside_37 M ((4 * x5) + x3) x2))]) (st' := [.int x1, .int 0]) (M' := M) (P := True) 4 rfl trivial ?_
            refine WX.icmp_le (off := 8) (tgt := 117) rfl rfl (fun c15 => ?_) (fun c15 => ?_)
            · refine WX.run (pc' := 22) (L' := [some (.ref 37), some (.int x1), some (.int x2), some (.int x3), some (.int 0), some (.int (x5 + 1)), some (.int ((4 * x5) + x3)), some (.int (z_M_beside_37 M ((4 * x5) + x3) x2))]) (st' := []) (M' := M) (P := True) 4 rfl trivial ?_
              refine WX.forget2 (L' := [some (.ref 37), some (.int x1), some (.int x2), some (.int x3), some (.int 0), some (.int (x5 + 1)), none, none]) ?_ ⟨Or.inr rfl, Or.inr rfl, Or.inr rfl, Or.inr rfl, Or.inr rfl, Or.inr rfl, Or.inl rfl, Or.inl rfl, trivial⟩
              exact (h24 c1 c2 c10 c12 c14 c15)
            · refine WX.run (pc' := 22) (L' := [some (.ref 37), some (.int 0), some (.int x2), some (.int x3), some (.int 0), some (.int (x5 + 1)), some (.int ((4 * x5) + x3)), some (.int (z_M_beside_37 M ((4 * x5) + x3) x2))]) (st' := []) (M' := M) (P := True) 5 rfl trivial ?_
              refine WX.forget2 (L' := [some (.ref 37), some (.int 0), some (.int x2), some (.int x3), some (.int 0), some (.int (x5 + 1)), none, none]) ?_ ⟨Or.inr rfl, Or.inr rfl, Or.inr rfl, Or.inr rfl, Or.inr rfl, Or.inr rfl, Or.inl rfl, Or.inl rfl, trivial⟩
              exact (h25 c1 c2 c10 c12 c14 c15)
          · refine WX.run (pc' := 109) (L' := [some (.ref 37), some (.int x1), some (.int x2), some (.int x3), some (.int (x4 + 1)), some (.int x5), some (.int ((4 * x5) + x3)), some (.int (z_M_beside_37 M ((4 * x5) + x3) x2))]) (st' := [.int x1, .int (x4 + 1)]) (M' := M) (P := True) 7 rfl trivial ?_
            refine WX.icmp_le (off := 8) (tgt := 117) rfl rfl (fun c16 => ?_) (fun c16 => ?_)
            · refine WX.run (pc' := 22) (L' := [some (.ref 37), some (.int x1), some (.int x2), some (.int x3), some (.int (x4 + 1)), some (.int (x5 + 1)), some (.int ((4 * x5) + x3)), some (.int (z_M_beside_37 M ((4 * x5) + x3) x2))]) (st' := []) (M' := M) (P := True) 4 rfl trivial ?_
              refine WX.forget2 (L' := [some (.ref 37), some (.int x1), some (.int x2), some (.int x3), some (.int (x4 + 1)), some (.int (x5 + 1)), none, none]) ?_ ⟨Or.inr rfl, Or.inr rfl, Or.inr rfl, Or.inr rfl, Or.inr rfl, Or.inr rfl, Or.inl rfl, Or.inl rfl, trivial⟩
              exact (h26 c1 c2 c10 c12 c14 c16)
            · refine WX.run (pc' := 22) (L' := [some (.ref 37), some (.int (x4 + 1)), some (.int x2), some (.int x3), some (.int (x4 + 1)), some (.int (x5 + 1)), some (.int ((4 * x5) + x3)), some (.int (z_M_beside_37 M ((4 * x5) + x3) x2))]) (st' := []) (M' := M) (P := True) 5 rfl trivial ?_
              refine WX.forget2 (L' := [some (.ref 37), some (.int (x4 + 1)), some (.int x2), some (.int x3), some (.int (x4 + 1)), some (.int (x5 + 1)), none, none]) ?_ ⟨Or.inr rfl, Or.inr rfl, Or.inr rfl, Or.inr rfl, Or.inr rfl, Or.inr rfl, Or.inl rfl, Or.inl rfl, trivial⟩
              exact (h27 c1 c2 c10 c12 c14 c16)
theorem sg_M_doTouch_37_0 {Q : Option Value → Mem → Prop} (M : Mem) (x1 x2 : Int32)
    (h1 : WX mi_M_doTouch 4 Q 5 [some (.ref 37), some (.int x1), some (.int x2), some (.int 0), some (.int 0), none, none] [] M) :
    WX mi_M_doTouch 4 Q 0 [some (.ref 37), some (.int x1), some (.int x2), none, none, none, none] [] M := by
  refine WX.run (pc' := 5) (L' := [some (.ref 37), some (.int x1), some (.int x2), some (.int 0), some (.int 0), none, none]) (st' := []) (M' := M) (P := True) 4 rfl trivial ?_
  exact h1
theorem sg_M_doTouch_37_5 {Q : Option Value → Mem → Prop} (M : Mem) (x1 x2 x3 x4 : Int32)
    (b1 : 16 ≤ x4 → (x3 = 0 ∨ x3 = 1))
    (h2 : 16 ≤ x4 → Q (some (.int x3)) M)
    (h3 : ¬ 16 ≤ x4 → WX mi_M_doTouch 4 Q 15 [some (.ref 37), some (.int x1), some (.int x2), some (.int x3), some (.int x4), some (.int 0), none] [] M) :
    WX mi_M_doTouch 4 Q 5 [some (.ref 37), some (.int x1), some (.int x2), some (.int x3), some (.int x4), none, none] [] M := by
  refine WX.run (pc' := 9) (L' := [some (.ref 37), some (.int x1), some (.int x2), some (.int x3), some (.int x4), none, none]) (st' := [.int 16, .int x4]) (M' := M) (P := True) 2 rfl trivial ?_
  refine WX.icmp_ge (off := 88) (tgt := 97) rfl rfl (fun c1 => ?_) (fun c1 => ?_)
  · refine WX.run (pc' := 98) (L' := [some (.ref 37), some (.int x1), some (.int x2), some (.int x3), some (.int x4), none, none]) (st' := [.int x3]) (M' := M) (P := True) 1 rfl trivial ?_
    exact WX.zret rfl rfl (b1 c1) (h2 c1)
  · refine WX.run (pc' := 15) (L' := [some (.ref 37), some (.int x1), some (.int x2), some (.int x3), some (.int x4), some (.int 0), none]) (st' := []) (M' := M) (P := True) 2 rfl trivial ?_
    exact (h3 c1)
theorem sg_M_doTouch_37_15 {Q : Option Value → Mem → Prop} (M : Mem) (x1 x2 x3 x4 x5 : Int32)
    (h1 : 4 ≤ x5 → WX mi_M_doTouch 4 Q 5 [some (.ref 37), some (.int x1), some (.int x2), some (.int x3), some (.int (x4 + 1)), none, none] [] M)
    (b2 : ¬ 4 ≤ x5 → vp_in (16 + x4) 1257)
    (h3 : ¬ 4 ≤ x5 → ¬ (M.1 46 (16 + x4).toNatClampNeg) = x1 → WX mi_M_doTouch 4 Q 5 [some (.ref 37), some (.int x1), some (.int x2), some (.int x3), some (.int (x4 + 1)), none, none] [] M)
    (b4 : ¬ 4 ≤ x5 → (M.1 46 (16 + x4).toNatClampNeg) = x1 → ((z_M_isCell_37 M (rem x4 4) (x4 / 4)) = 0 ∨ (z_M_isCell_37 M (rem x4 4) (x4 / 4)) = 1))
    (h5 : ¬ 4 ≤ x5 → (M.1 46 (16 + x4).toNatClampNeg) = x1 → (z_M_isThere_37 M x4) = 0 → WX mi_M_doTouch 4 Q 5 [some (.ref 37), some (.int x1), some (.int x2), some (.int x3), some (.int (x4 + 1)), none, none] [] M)
    (h6 : ¬ 4 ≤ x5 → (M.1 46 (16 + x4).toNatClampNeg) = x1 → ¬ (z_M_isThere_37 M x4) = 0 → ¬ x3 = 0 → WX mi_M_doTouch 4 Q 15 [some (.ref 37), some (.int x1), some (.int x2), some (.int 1), some (.int x4), some (.int (x5 + 1)), none] [] M)
    (h7 : ¬ 4 ≤ x5 → (M.1 46 (16 + x4).toNatClampNeg) = x1 → ¬ (z_M_isThere_37 M x4) = 0 → x3 = 0 → (z_M_beside_37 M x4 x5) = (-9) → WX mi_M_doTouch 4 Q 15 [some (.ref 37), some (.int x1), some (.int x2), some (.int 0), some (.int x4), some (.int (x5 + 1)), none] [] M)
    (b8 : ¬ 4 ≤ x5 → (M.1 46 (16 + x4).toNatClampNeg) = x1 → ¬ (z_M_isThere_37 M x4) = 0 → x3 = 0 → ¬ (z_M_beside_37 M x4 x5) = (-9) → vp_in (16 + (z_M_beside_37 M x4 x5)) 1257)
    (h9 : ¬ 4 ≤ x5 → (M.1 46 (16 + x4).toNatClampNeg) = x1 → ¬ (z_M_isThere_37 M x4) = 0 → x3 = 0 → ¬ (z_M_beside_37 M x4 x5) = (-9) → ¬ (M.1 46 (16 + (z_M_beside_37 M x4 x5)).toNatClampNeg) = x2 → WX mi_M_doTouch 4 Q 15 [some (.ref 37), some (.int x1), some (.int x2), some (.int 0), some (.int x4), some (.int (x5 + 1)), none] [] M)
    (h10 : ¬ 4 ≤ x5 → (M.1 46 (16 + x4).toNatClampNeg) = x1 → ¬ (z_M_isThere_37 M x4) = 0 → x3 = 0 → ¬ (z_M_beside_37 M x4 x5) = (-9) → (M.1 46 (16 + (z_M_beside_37 M x4 x5)).toNatClampNeg) = x2 → WX mi_M_doTouch 4 Q 15 [some (.ref 37), some (.int x1), some (.int x2), some (.int 1), some (.int x4), some (.int (x5 + 1)), none] [] M) :
    WX mi_M_doTouch 4 Q 15 [some (.ref 37), some (.int x1), some (.int x2), some (.int x3), some (.int x4), some (.int x5), none] [] M := by
  refine WX.run (pc' := 18) (L' := [some (.ref 37), some (.int x1), some (.int x2), some (.int x3), some (.int x4), some (.int x5), none]) (st' := [.int 4, .int x5]) (M' := M) (P := True) 2 rfl trivial ?_
  refine WX.icmp_ge (off := 73) (tgt := 91) rfl rfl (fun c1 => ?_) (fun c1 => ?_)
  · refine WX.run (pc' := 5) (L' := [some (.ref 37), some (.int x1), some (.int x2), some (.int x3), some (.int (x4 + 1)), some (.int x5), none]) (st' := []) (M' := M) (P := True) 2 rfl trivial ?_
    refine WX.forget2 (L' := [some (.ref 37), some (.int x1), some (.int x2), some (.int x3), some (.int (x4 + 1)), none, none]) ?_ ⟨Or.inr rfl, Or.inr rfl, Or.inr rfl, Or.inr rfl, Or.inr rfl, Or.inl rfl, Or.inr rfl, trivial⟩
    exact (h1 c1)
  · refine WX.run (pc' := 32) (L' := [some (.ref 37), some (.int x1), some (.int x2), some (.int x3), some (.int x4), some (.int x5), none]) (st' := [.int x1, .int (M.1 46 (16 + x4).toNatClampNeg)]) (M' := M) (P := (True ∧ vp_in (16 + x4) 1257)) 7 rfl ⟨trivial, (b2 c1)⟩ ?_
    refine WX.icmp_ne (off := 59) (tgt := 91) rfl rfl (fun c2 => ?_) (fun c2 => ?_)
    · refine WX.run (pc' := 5) (L' := [some (.ref 37), some (.int x1), some (.int x2), some (.int x3), some (.int (x4 + 1)), some (.int x5), none]) (st' := []) (M' := M) (P := True) 2 rfl trivial ?_
      refine WX.forget2 (L' := [some (.ref 37), some (.int x1), some (.int x2), some (.int x3), some (.int (x4 + 1)), none, none]) ?_ ⟨Or.inr rfl, Or.inr rfl, Or.inr rfl, Or.inr rfl, Or.inr rfl, Or.inl rfl, Or.inr rfl, trivial⟩
      exact (h3 c1 c2)
    · refine WX.run (pc' := 38) (L' := [some (.ref 37), some (.int x1), some (.int x2), some (.int x3), some (.int x4), some (.int x5), none]) (st' := [.int x4, .ref 37]) (M' := M) (P := True) 2 rfl trivial ?_
      refine WX.callV (ca := mi_M_isThere) (n := 1) (d' := 3) (st := []) (As := [.int x4]) (q := 37) rfl lk_7_148 ck_M_isThere cv_M_isThere rfl (by decide) rfl (Nat.le_of_ble_eq_true rfl) ⟨by decide, rfl, by decide⟩ (by intro w hw; simp only [List.mem_cons, List.not_mem_nil, or_false] at hw; rcases hw with rfl <;> rfl) (Nat.le_of_ble_eq_true rfl) ?_
      refine wx_M_isThere_37 M x4 (b4 c1 c2) ?_
      show WX mi_M_doTouch 4 Q 41 [some (.ref 37), some (.int x1), some (.int x2), some (.int x3), some (.int x4), some (.int x5), none] [.int (z_M_isThere_37 M x4)] M
      refine WX.if_eq (off := 50) (tgt := 91) rfl rfl (fun c3 => ?_) (fun c3 => ?_)
      · refine WX.run (pc' := 5) (L' := [some (.ref 37), some (.int x1), some (.int x2), some (.int x3), some (.int (x4 + 1)), some (.int x5), none]) (st' := []) (M' := M) (P := True) 2 rfl trivial ?_
        refine WX.forget2 (L' := [some (.ref 37), some (.int x1), some (.int x2), some (.int x3), some (.int (x4 + 1)), none, none]) ?_ ⟨Or.inr rfl, Or.inr rfl, Or.inr rfl, Or.inr rfl, Or.inr rfl, Or.inl rfl, Or.inr rfl, trivial⟩
        exact (h5 c1 c2 c3)
      · refine WX.run (pc' := 49) (L' := [some (.ref 37), some (.int x1), some (.int x2), some (.int x3), some (.int x4), some (.int x5), none]) (st' := [.int x5, .int x4, .ref 37]) (M' := M) (P := True) 3 rfl trivial ?_
        refine WX.callV (ca := mi_M_beside) (n := 2) (d' := 3) (st := []) (As := [.int x4, .int x5]) (q := 37) rfl lk_7_169 ck_M_beside cv_M_beside rfl (by decide) rfl (Nat.le_of_ble_eq_true rfl) ⟨by decide, rfl, by decide⟩ (by intro w hw; simp only [List.mem_cons, List.not_mem_nil, or_false] at hw; rcases hw with rfl | rfl <;> rfl) (Nat.le_of_ble_eq_true rfl) ?_
        refine wx_M_beside_37 M x4 x5 ?_
        show WX mi_M_doTouch 4 Q 52 [some (.ref 37), some (.int x1), some (.int x2), some (.int x3), some (.int x4), some (.int x5), none] [.int (z_M_beside_37 M x4 x5)] M
        refine WX.run (pc' := 55) (L' := [some (.ref 37), some (.int x1), some (.int x2), some (.int x3), some (.int x4), some (.int x5), some (.int (z_M_beside_37 M x4 x5))]) (st' := [.int x3]) (M' := M) (P := True) 2 rfl trivial ?_
        refine WX.if_ne (off := 24) (tgt := 79) rfl rfl (fun c4 => ?_) (fun c4 => ?_)
        · refine WX.run (pc' := 15) (L' := [some (.ref 37), some (.int x1), some (.int x2), some (.int 1), some (.int x4), some (.int (x5 + 1)), some (.int (z_M_beside_37 M x4 x5))]) (st' := []) (M' := M) (P := True) 5 rfl trivial ?_
          refine WX.forget2 (L' := [some (.ref 37), some (.int x1), some (.int x2), some (.int 1), some (.int x4), some (.int (x5 + 1)), none]) ?_ ⟨Or.inr rfl, Or.inr rfl, Or.inr rfl, Or.inr rfl, Or.inr rfl, Or.inr rfl, Or.inl rfl, trivial⟩
          exact (h6 c1 c2 c3 c4)
        · refine WX.run (pc' := 62) (L' := [some (.ref 37), some (.int x1), some (.int x2), some (.int x3), some (.int x4), some (.int x5), some (.int (z_M_beside_37 M x4 x5))]) (st' := [.int (-9), .int (z_M_beside_37 M x4 x5)]) (M' := M) (P := True) 2 rfl trivial ?_
          refine WX.icmp_eq (off := 21) (tgt := 83) rfl rfl (fun c5 => ?_) (fun c5 => ?_)
          · refine WX.run (pc' := 15) (L' := [some (.ref 37), some (.int x1), some (.int x2), some (.int 0), some (.int x4), some (.int (x5 + 1)), some (.int (z_M_beside_37 M x4 x5))]) (st' := []) (M' := M) (P := True) 4 rfl trivial ?_
            refine WX.forget2 (L' := [some (.ref 37), some (.int x1), some (.int x2), some (.int 0), some (.int x4), some (.int (x5 + 1)), none]) ?_ ⟨Or.inr rfl, Or.inr rfl, Or.inr rfl, Or.inr rfl, Or.inr rfl, Or.inr rfl, Or.inl rfl, trivial⟩
            exact (h7 c1 c2 c3 c4 c5)
          · refine WX.run (pc' := 76) (L' := [some (.ref 37), some (.int x1), some (.int x2), some (.int x3), some (.int x4), some (.int x5), some (.int (z_M_beside_37 M x4 x5))]) (st' := [.int x2, .int (M.1 46 (16 + (z_M_beside_37 M x4 x5)).toNatClampNeg)]) (M' := M) (P := (True ∧ vp_in (16 + (z_M_beside_37 M x4 x5)) 1257)) 7 rfl ⟨trivial, (b8 c1 c2 c3 c4 c5)⟩ ?_
            refine WX.icmp_ne (off := 7) (tgt := 83) rfl rfl (fun c6 => ?_) (fun c6 => ?_)
            · refine WX.run (pc' := 15) (L' := [some (.ref 37), some (.int x1), some (.int x2), some (.int 0), some (.int x4), some (.int (x5 + 1)), some (.int (z_M_beside_37 M x4 x5))]) (st' := []) (M' := M) (P := True) 4 rfl trivial ?_
              refine WX.forget2 (L' := [some (.ref 37), some (.int x1), some (.int x2), some (.int 0), some (.int x4), some (.int (x5 + 1)), none]) ?_ ⟨Or.inr rfl, Or.inr rfl, Or.inr rfl, Or.inr rfl, Or.inr rfl, Or.inr rfl, Or.inl rfl, trivial⟩
              exact (h9 c1 c2 c3 c4 c5 c6)
            · refine WX.run (pc' := 15) (L' := [some (.ref 37), some (.int x1), some (.int x2), some (.int 1), some (.int x4), some (.int (x5 + 1)), some (.int (z_M_beside_37 M x4 x5))]) (st' := []) (M' := M) (P := True) 5 rfl trivial ?_
              refine WX.forget2 (L' := [some (.ref 37), some (.int x1), some (.int x2), some (.int 1), some (.int x4), some (.int (x5 + 1)), none]) ?_ ⟨Or.inr rfl, Or.inr rfl, Or.inr rfl, Or.inr rfl, Or.inr rfl, Or.inr rfl, Or.inl rfl, trivial⟩
              exact (h10 c1 c2 c3 c4 c5 c6)
theorem sg_M_alike_37_0 {Q : Option Value → Mem → Prop} (M : Mem)
    (h1 : WX mi_M_alike 5 Q 4 [some (.ref 37), some (.int 0), some (.int 0), none, none] [] M) :
    WX mi_M_alike 5 Q 0 [some (.ref 37), none, none, none, none] [] M := by
  refine WX.run (pc' := 4) (L' := [some (.ref 37), some (.int 0), some (.int 0), none, none]) (st' := []) (M' := M) (P := True) 4 rfl trivial ?_
  exact h1
theorem sg_M_alike_37_4 {Q : Option Value → Mem → Prop} (M : Mem) (x1 x2 : Int32)
    (h1 : 16 ≤ x2 → Q (some (.int x1)) M)
    (h2 : ¬ 16 ≤ x2 → WX mi_M_alike 5 Q 12 [some (.ref 37), some (.int x1), some (.int x2), some (.int 0), none] [] M) :
    WX mi_M_alike 5 Q 4 [some (.ref 37), some (.int x1), some (.int x2), none, none] [] M := by
  refine WX.run (pc' := 7) (L' := [some (.ref 37), some (.int x1), some (.int x2), none, none]) (st' := [.int 16, .int x2]) (M' := M) (P := True) 2 rfl trivial ?_
  refine WX.icmp_ge (off := 110) (tgt := 117) rfl rfl (fun c1 => ?_) (fun c1 => ?_)
  · refine WX.run (pc' := 118) (L' := [some (.ref 37), some (.int x1), some (.int x2), none, none]) (st' := [.int x1]) (M' := M) (P := True) 1 rfl trivial ?_
    exact WX.iret rfl rfl (h1 c1)
  · refine WX.run (pc' := 12) (L' := [some (.ref 37), some (.int x1), some (.int x2), some (.int 0), none]) (st' := []) (M' := M) (P := True) 2 rfl trivial ?_
    exact (h2 c1)
theorem sg_M_alike_37_12 {Q : Option Value → Mem → Prop} (M : Mem) (x1 x2 x3 : Int32)
    (h1 : x2 ≤ x3 → WX mi_M_alike 5 Q 4 [some (.ref 37), some (.int x1), some (.int (x2 + 1)), none, none] [] M)
    (b2 : ¬ x2 ≤ x3 → ((z_M_isCell_37 M (rem x2 4) (x2 / 4)) = 0 ∨ (z_M_isCell_37 M (rem x2 4) (x2 / 4)) = 1))
    (b3 : ¬ x2 ≤ x3 → ¬ (z_M_isThere_37 M x2) = 0 → vp_in (16 + x2) 1257)
    (b4 : ¬ x2 ≤ x3 → ¬ (z_M_isThere_37 M x2) = 0 → ¬ (M.1 46 (16 + x2).toNatClampNeg) = (-9) → vp_in (16 + x2) 1257)
    (h5 : ¬ x2 ≤ x3 → (z_M_begins_37 M x2) = 0 → WX mi_M_alike 5 Q 12 [some (.ref 37), some (.int (x1 + 0)), some (.int x2), some (.int (x3 + 1)), none] [] M)
    (b6 : ¬ x2 ≤ x3 → ¬ (z_M_begins_37 M x2) = 0 → ((z_M_isCell_37 M (rem x3 4) (x3 / 4)) = 0 ∨ (z_M_isCell_37 M (rem x3 4) (x3 / 4)) = 1))
    (b7 : ¬ x2 ≤ x3 → ¬ (z_M_begins_37 M x2) = 0 → ¬ (z_M_isThere_37 M x3) = 0 → vp_in (16 + x3) 1257)
    (b8 : ¬ x2 ≤ x3 → ¬ (z_M_begins_37 M x2) = 0 → ¬ (z_M_isThere_37 M x3) = 0 → ¬ (M.1 46 (16 + x3).toNatClampNeg) = (-9) → vp_in (16 + x3) 1257)
    (h9 : ¬ x2 ≤ x3 → ¬ (z_M_begins_37 M x2) = 0 → (z_M_begins_37 M x3) = 0 → WX mi_M_alike 5 Q 12 [some (.ref 37), some (.int (x1 + 0)), some (.int x2), some (.int (x3 + 1)), none] [] M)
    (b10 : ¬ x2 ≤ x3 → ¬ (z_M_begins_37 M x2) = 0 → ¬ (z_M_begins_37 M x3) = 0 → vp_in (16 + x2) 1257)
    (b11 : ¬ x2 ≤ x3 → ¬ (z_M_begins_37 M x2) = 0 → ¬ (z_M_begins_37 M x3) = 0 → vp_in (16 + x3) 1257)
    (h12 : ¬ x2 ≤ x3 → ¬ (z_M_begins_37 M x2) = 0 → ¬ (z_M_begins_37 M x3) = 0 → ¬ ((M.1 46 (16 + x2).toNatClampNeg) / 16) = ((M.1 46 (16 + x3).toNatClampNeg) / 16) → WX mi_M_alike 5 Q 12 [some (.ref 37), some (.int (x1 + 0)), some (.int x2), some (.int (x3 + 1)), none] [] M)
    (b13 : ¬ x2 ≤ x3 → ¬ (z_M_begins_37 M x2) = 0 → ¬ (z_M_begins_37 M x3) = 0 → ((M.1 46 (16 + x2).toNatClampNeg) / 16) = ((M.1 46 (16 + x3).toNatClampNeg) / 16) → vp_in (16 + x2) 1257)
    (b14 : ¬ x2 ≤ x3 → ¬ (z_M_begins_37 M x2) = 0 → ¬ (z_M_begins_37 M x3) = 0 → ((M.1 46 (16 + x2).toNatClampNeg) / 16) = ((M.1 46 (16 + x3).toNatClampNeg) / 16) → vp_in (16 + x3) 1257)
    (h15 : ¬ x2 ≤ x3 → ¬ (z_M_begins_37 M x2) = 0 → ¬ (z_M_begins_37 M x3) = 0 → ((M.1 46 (16 + x2).toNatClampNeg) / 16) = ((M.1 46 (16 + x3).toNatClampNeg) / 16) → WX mi_M_doTouch 4 (fun rv M' => WX mi_M_alike 5 Q 95 [some (.ref 37), some (.int x1), some (.int x2), some (.int x3), some (.int 1)] (rv.toList ++ [.int x1]) M') 0 [some (.ref 37), some (.int (M.1 46 (16 + x2).toNatClampNeg)), some (.int (M.1 46 (16 + x3).toNatClampNeg)), none, none, none, none] [] M) :
    WX mi_M_alike 5 Q 12 [some (.ref 37), some (.int x1), some (.int x2), some (.int x3), none] [] M := by
  refine WX.run (pc' := 14) (L' := [some (.ref 37), some (.int x1), some (.int x2), some (.int x3), none]) (st' := [.int x2, .int x3]) (M' := M) (P := True) 2 rfl trivial ?_
  refine WX.icmp_ge (off := 97) (tgt := 111) rfl rfl (fun c1 => ?_) (fun c1 => ?_)
  · refine WX.run (pc' := 4) (L' := [some (.ref 37), some (.int x1), some (.int (x2 + 1)), some (.int x3), none]) (st' := []) (M' := M) (P := True) 2 rfl trivial ?_
    refine WX.forget2 (L' := [some (.ref 37), some (.int x1), some (.int (x2 + 1)), none, none]) ?_ ⟨Or.inr rfl, Or.inr rfl, Or.inr rfl, Or.inl rfl, Or.inr rfl, trivial⟩
    exact (h1 c1)
  · refine WX.run (pc' := 19) (L' := [some (.ref 37), some (.int x1), some (.int x2), some (.int x3), none]) (st' := [.int x2, .ref 37]) (M' := M) (P := True) 2 rfl trivial ?_
    refine WX.callV (ca := mi_M_begins) (n := 1) (d' := 4) (st := []) (As := [.int x2]) (q := 37) rfl lk_7_172 ck_M_begins cv_M_begins rfl (by decide) rfl (Nat.le_of_ble_eq_true rfl) ⟨by decide, rfl, by decide⟩ (by intro w hw; simp only [List.mem_cons, List.not_mem_nil, or_false] at hw; rcases hw with rfl <;> rfl) (Nat.le_of_ble_eq_true rfl) ?_
    refine wx_M_begins_37 M x2 (b2 c1) (b3 c1) (b4 c1) ?_
    show WX mi_M_alike 5 Q 22 [some (.ref 37), some (.int x1), some (.int x2), some (.int x3), none] [.int (z_M_begins_37 M x2)] M
    refine WX.if_eq (off := 42) (tgt := 64) rfl rfl (fun c2 => ?_) (fun c2 => ?_)
    · refine WX.run (pc' := 70) (L' := [some (.ref 37), some (.int x1), some (.int x2), some (.int x3), some (.int 0)]) (st' := [.int 0, .int x1]) (M' := M) (P := True) 4 rfl trivial ?_
      refine WX.if_eq (off := 32) (tgt := 102) rfl rfl (fun _ => ?_) (fun c => absurd (by decide) c)
      refine WX.run (pc' := 12) (L' := [some (.ref 37), some (.int (x1 + 0)), some (.int x2), some (.int (x3 + 1)), some (.int 0)]) (st' := []) (M' := M) (P := True) 5 rfl trivial ?_
      refine WX.forget2 (L' := [some (.ref 37), some (.int (x1 + 0)), some (.int x2), some (.int (x3 + 1)), none]) ?_ ⟨Or.inr rfl, Or.inr rfl, Or.inr rfl, Or.inr rfl, Or.inl rfl, trivial⟩
      exact (h5 c1 c2)
    · refine WX.run (pc' := 27) (L' := [some (.ref 37), some (.int x1), some (.int x2), some (.int x3), none]) (st' := [.int x3, .ref 37]) (M' := M) (P := True) 2 rfl trivial ?_
      refine WX.callV (ca := mi_M_begins) (n := 1) (d' := 4) (st := []) (As := [.int x3]) (q := 37) rfl lk_7_172 ck_M_begins cv_M_begins rfl (by decide) rfl (Nat.le_of_ble_eq_true rfl) ⟨by decide, rfl, by decide⟩ (by intro w hw; simp only [List.mem_cons, List.not_mem_nil, or_false] at hw; rcases hw with rfl <;> rfl) (Nat.le_of_ble_eq_true rfl) ?_
      refine wx_M_begins_37 M x3 (b6 c1 c2) (b7 c1 c2) (b8 c1 c2) ?_
      show WX mi_M_alike 5 Q 30 [some (.ref 37), some (.int x1), some (.int x2), some (.int x3), none] [.int (z_M_begins_37 M x3)] M
      refine WX.if_eq (off := 34) (tgt := 64) rfl rfl (fun c3 => ?_) (fun c3 => ?_)
      · refine WX.run (pc' := 70) (L' := [some (.ref 37), some (.int x1), some (.int x2), some (.int x3), some (.int 0)]) (st' := [.int 0, .int x1]) (M' := M) (P := True) 4 rfl trivial ?_
        refine WX.if_eq (off := 32) (tgt := 102) rfl rfl (fun _ => ?_) (fun c => absurd (by decide) c)
        refine WX.run (pc' := 12) (L' := [some (.ref 37), some (.int (x1 + 0)), some (.int x2), some (.int (x3 + 1)), some (.int 0)]) (st' := []) (M' := M) (P := True) 5 rfl trivial ?_
        refine WX.forget2 (L' := [some (.ref 37), some (.int (x1 + 0)), some (.int x2), some (.int (x3 + 1)), none]) ?_ ⟨Or.inr rfl, Or.inr rfl, Or.inr rfl, Or.inr rfl, Or.inl rfl, trivial⟩
        exact (h9 c1 c2 c3)
      · refine WX.run (pc' := 57) (L' := [some (.ref 37), some (.int x1), some (.int x2), some (.int x3), none]) (st' := [.int ((M.1 46 (16 + x3).toNatClampNeg) / 16), .int ((M.1 46 (16 + x2).toNatClampNeg) / 16)]) (M' := M) (P := ((((True ∧ vp_in (16 + x2) 1257) ∧ ¬ 16 = 0) ∧ vp_in (16 + x3) 1257) ∧ ¬ 16 = 0)) 16 rfl ⟨⟨⟨⟨trivial, (b10 c1 c2 c3)⟩, (by decide)⟩, (b11 c1 c2 c3)⟩, (by decide)⟩ ?_
        refine WX.icmp_ne (off := 7) (tgt := 64) rfl rfl (fun c4 => ?_) (fun c4 => ?_)
        · refine WX.run (pc' := 70) (L' := [some (.ref 37), some (.int x1), some (.int x2), some (.int x3), some (.int 0)]) (st' := [.int 0, .int x1]) (M' := M) (P := True) 4 rfl trivial ?_
          refine WX.if_eq (off := 32) (tgt := 102) rfl rfl (fun _ => ?_) (fun c => absurd (by decide) c)
          refine WX.run (pc' := 12) (L' := [some (.ref 37), some (.int (x1 + 0)), some (.int x2), some (.int (x3 + 1)), some (.int 0)]) (st' := []) (M' := M) (P := True) 5 rfl trivial ?_
          refine WX.forget2 (L' := [some (.ref 37), some (.int (x1 + 0)), some (.int x2), some (.int (x3 + 1)), none]) ?_ ⟨Or.inr rfl, Or.inr rfl, Or.inr rfl, Or.inr rfl, Or.inl rfl, trivial⟩
          exact (h12 c1 c2 c3 c4)
        · refine WX.run (pc' := 70) (L' := [some (.ref 37), some (.int x1), some (.int x2), some (.int x3), some (.int 1)]) (st' := [.int 1, .int x1]) (M' := M) (P := True) 5 rfl trivial ?_
          refine WX.if_eq (off := 32) (tgt := 102) rfl rfl (fun c => absurd c (by decide)) (fun _ => ?_)
          refine WX.run (pc' := 92) (L' := [some (.ref 37), some (.int x1), some (.int x2), some (.int x3), some (.int 1)]) (st' := [.int (M.1 46 (16 + x3).toNatClampNeg), .int (M.1 46 (16 + x2).toNatClampNeg), .ref 37, .int x1]) (M' := M) (P := ((True ∧ vp_in (16 + x2) 1257) ∧ vp_in (16 + x3) 1257)) 13 rfl ⟨⟨trivial, (b13 c1 c2 c3 c4)⟩, (b14 c1 c2 c3 c4)⟩ ?_
          refine WX.callV (ca := mi_M_doTouch) (n := 2) (d' := 4) (st := [.int x1]) (As := [.int (M.1 46 (16 + x2).toNatClampNeg), .int (M.1 46 (16 + x3).toNatClampNeg)]) (q := 37) rfl lk_7_175 ck_M_doTouch cv_M_doTouch rfl (by decide) rfl (Nat.le_of_ble_eq_true rfl) ⟨by decide, rfl, by decide⟩ (by intro w hw; simp only [List.mem_cons, List.not_mem_nil, or_false] at hw; rcases hw with rfl | rfl <;> rfl) (Nat.le_of_ble_eq_true rfl) ?_
          exact (h15 c1 c2 c3 c4)
theorem sg_M_alike_37_95 {Q : Option Value → Mem → Prop} (M : Mem) (x1 x2 x3 x4 r s1 : Int32)
    (h1 : r = 0 → WX mi_M_alike 5 Q 12 [some (.ref 37), some (.int (s1 + 0)), some (.int x2), some (.int (x3 + 1)), none] [] M)
    (h2 : ¬ r = 0 → WX mi_M_alike 5 Q 12 [some (.ref 37), some (.int (s1 + 1)), some (.int x2), some (.int (x3 + 1)), none] [] M) :
    WX mi_M_alike 5 Q 95 [some (.ref 37), some (.int x1), some (.int x2), some (.int x3), some (.int x4)] [.int r, .int s1] M := by
  refine WX.if_eq (off := 7) (tgt := 102) rfl rfl (fun c1 => ?_) (fun c1 => ?_)
  · refine WX.run (pc' := 12) (L' := [some (.ref 37), some (.int (s1 + 0)), some (.int x2), some (.int (x3 + 1)), some (.int x4)]) (st' := []) (M' := M) (P := True) 5 rfl trivial ?_
    refine WX.forget2 (L' := [some (.ref 37), some (.int (s1 + 0)), some (.int x2), some (.int (x3 + 1)), none]) ?_ ⟨Or.inr rfl, Or.inr rfl, Or.inr rfl, Or.inr rfl, Or.inl rfl, trivial⟩
    exact (h1 c1)
  · refine WX.run (pc' := 12) (L' := [some (.ref 37), some (.int (s1 + 1)), some (.int x2), some (.int (x3 + 1)), some (.int x4)]) (st' := []) (M' := M) (P := True) 6 rfl trivial ?_
    refine WX.forget2 (L' := [some (.ref 37), some (.int (s1 + 1)), some (.int x2), some (.int (x3 + 1)), none]) ?_ ⟨Or.inr rfl, Or.inr rfl, Or.inr rfl, Or.inr rfl, Or.inl rfl, trivial⟩
    exact (h2 c1)
theorem sg_M_heightOf_37_46_0 {Q : Option Value → Mem → Prop} (M : Mem) (x2 : Int32)
    (b1 : (z_M_isDrain_37 M x2) = 0 → vp_in x2 1257)
    (h2 : (z_M_isDrain_37 M x2) = 0 → Q (some (.int (M.1 46 x2.toNatClampNeg))) M)
    (h3 : ¬ (z_M_isDrain_37 M x2) = 0 → Q (some (.int (-1))) M) :
    WX mi_M_heightOf 2 Q 0 [some (.ref 37), some (.ref 46), some (.int x2)] [] M := by
  refine WX.run (pc' := 2) (L' := [some (.ref 37), some (.ref 46), some (.int x2)]) (st' := [.int x2, .ref 37]) (M' := M) (P := True) 2 rfl trivial ?_
  refine WX.callV (ca := mi_M_isDrain) (n := 1) (d' := 1) (st := []) (As := [.int x2]) (q := 37) rfl lk_7_138 ck_M_isDrain cv_M_isDrain rfl (by decide) rfl (Nat.le_of_ble_eq_true rfl) ⟨by decide, rfl, by decide⟩ (by intro w hw; simp only [List.mem_cons, List.not_mem_nil, or_false] at hw; rcases hw with rfl <;> rfl) (Nat.le_of_ble_eq_true rfl) ?_
  refine wx_M_isDrain_37 M x2 ?_
  show WX mi_M_heightOf 2 Q 5 [some (.ref 37), some (.ref 46), some (.int x2)] [.int (z_M_isDrain_37 M x2)] M
  refine WX.if_eq (off := 7) (tgt := 12) rfl rfl (fun c1 => ?_) (fun c1 => ?_)
  · refine WX.run (pc' := 15) (L' := [some (.ref 37), some (.ref 46), some (.int x2)]) (st' := [.int (M.1 46 x2.toNatClampNeg)]) (M' := M) (P := (True ∧ vp_in x2 1257)) 3 rfl ⟨trivial, (b1 c1)⟩ ?_
    exact WX.iret rfl rfl (h2 c1)
  · refine WX.run (pc' := 15) (L' := [some (.ref 37), some (.ref 46), some (.int x2)]) (st' := [.int (-1)]) (M' := M) (P := True) 2 rfl trivial ?_
    exact WX.iret rfl rfl (h3 c1)
def z_M_heightOf_37_46 (M : Mem) (x2 : Int32) : Int32 := (if (z_M_isDrain_37 M x2) = 0 then (M.1 46 x2.toNatClampNeg) else (-1))
theorem wx_M_heightOf_37_46 {Q : Option Value → Mem → Prop} (M : Mem) (x2 : Int32)
    (b1 : (z_M_isDrain_37 M x2) = 0 → vp_in x2 1257)
    (h : Q (some (.int (z_M_heightOf_37_46 M x2))) M) :
    WX mi_M_heightOf 2 Q 0 [some (.ref 37), some (.ref 46), some (.int x2)] [] M := by
  refine sg_M_heightOf_37_46_0 M x2
    b1
    (fun c1 => by
      unfold z_M_heightOf_37_46 at h
      rw [if_pos c1] at h
      exact h)
    (fun c1 => by
      unfold z_M_heightOf_37_46 at h
      rw [if_neg c1] at h
      exact h)
theorem sg_M_nextOf_37_46_0 {Q : Option Value → Mem → Prop} (M : Mem) (x2 : Int32)
    (h1 : WX mi_M_nextOf 4 Q 6 [some (.ref 37), some (.ref 46), some (.int x2), some (.int (-9)), some (.int 0), none, none] [] M) :
    WX mi_M_nextOf 4 Q 0 [some (.ref 37), some (.ref 46), some (.int x2), none, none, none, none] [] M := by
  refine WX.run (pc' := 6) (L' := [some (.ref 37), some (.ref 46), some (.int x2), some (.int (-9)), some (.int 0), none, none]) (st' := []) (M' := M) (P := True) 4 rfl trivial ?_
  exact h1
theorem sg_M_nextOf_37_46_6 {Q : Option Value → Mem → Prop} (M : Mem) (x2 x3 x4 : Int32)
    (h1 : 4 ≤ x4 → Q (some (.int x3)) M)
    (h2 : ¬ 4 ≤ x4 → (z_M_beside_37 M x2 x4) = (-9) → WX mi_M_nextOf 4 Q 6 [some (.ref 37), some (.ref 46), some (.int x2), some (.int x3), some (.int (x4 + 1)), none, none] [] M)
    (h3 : ¬ 4 ≤ x4 → ¬ (z_M_beside_37 M x2 x4) = (-9) → ¬ (z_M_isLid_37 M (z_M_beside_37 M x2 x4)) = 0 → WX mi_M_nextOf 4 Q 6 [some (.ref 37), some (.ref 46), some (.int x2), some (.int x3), some (.int (x4 + 1)), none, none] [] M)
    (b4 : ¬ 4 ≤ x4 → ¬ (z_M_beside_37 M x2 x4) = (-9) → (z_M_isLid_37 M (z_M_beside_37 M x2 x4)) = 0 → (z_M_isDrain_37 M (z_M_beside_37 M x2 x4)) = 0 → vp_in (z_M_beside_37 M x2 x4) 1257)
    (b5 : ¬ 4 ≤ x4 → ¬ (z_M_beside_37 M x2 x4) = (-9) → (z_M_isLid_37 M (z_M_beside_37 M x2 x4)) = 0 → (z_M_isDrain_37 M x2) = 0 → vp_in x2 1257)
    (h6 : ¬ 4 ≤ x4 → ¬ (z_M_beside_37 M x2 x4) = (-9) → (z_M_isLid_37 M (z_M_beside_37 M x2 x4)) = 0 → (z_M_heightOf_37_46 M x2) ≤ (z_M_heightOf_37_46 M (z_M_beside_37 M x2 x4)) → WX mi_M_nextOf 4 Q 6 [some (.ref 37), some (.ref 46), some (.int x2), some (.int x3), some (.int (x4 + 1)), none, none] [] M)
    (h7 : ¬ 4 ≤ x4 → ¬ (z_M_beside_37 M x2 x4) = (-9) → (z_M_isLid_37 M (z_M_beside_37 M x2 x4)) = 0 → ¬ (z_M_heightOf_37_46 M x2) ≤ (z_M_heightOf_37_46 M (z_M_beside_37 M x2 x4)) → x3 = (-9) → WX mi_M_nextOf 4 Q 6 [some (.ref 37), some (.ref 46), some (.int x2), some (.int (z_M_beside_37 M x2 x4)), some (.int (x4 + 1)), none, none] [] M)
    (b8 : ¬ 4 ≤ x4 → ¬ (z_M_beside_37 M x2 x4) = (-9) → (z_M_isLid_37 M (z_M_beside_37 M x2 x4)) = 0 → ¬ (z_M_heightOf_37_46 M x2) ≤ (z_M_heightOf_37_46 M (z_M_beside_37 M x2 x4)) → ¬ x3 = (-9) → (z_M_isDrain_37 M (z_M_beside_37 M x2 x4)) = 0 → vp_in (z_M_beside_37 M x2 x4) 1257)
    (b9 : ¬ 4 ≤ x4 → ¬ (z_M_beside_37 M x2 x4) = (-9) → (z_M_isLid_37 M (z_M_beside_37 M x2 x4)) = 0 → ¬ (z_M_heightOf_37_46 M x2) ≤ (z_M_heightOf_37_46 M (z_M_beside_37 M x2 x4)) → ¬ x3 = (-9) → (z_M_isDrain_37 M x3) = 0 → vp_in x3 1257)
    (h10 : ¬ 4 ≤ x4 → ¬ (z_M_beside_37 M x2 x4) = (-9) → (z_M_isLid_37 M (z_M_beside_37 M x2 x4)) = 0 → ¬ (z_M_heightOf_37_46 M x2) ≤ (z_M_heightOf_37_46 M (z_M_beside_37 M x2 x4)) → ¬ x3 = (-9) → (z_M_heightOf_37_46 M x3) ≤ (z_M_heightOf_37_46 M (z_M_beside_37 M x2 x4)) → WX mi_M_nextOf 4 Q 6 [some (.ref 37), some (.ref 46), some (.int x2), some (.int x3), some (.int (x4 + 1)), none, none] [] M)
    (h11 : ¬ 4 ≤ x4 → ¬ (z_M_beside_37 M x2 x4) = (-9) → (z_M_isLid_37 M (z_M_beside_37 M x2 x4)) = 0 → ¬ (z_M_heightOf_37_46 M x2) ≤ (z_M_heightOf_37_46 M (z_M_beside_37 M x2 x4)) → ¬ x3 = (-9) → ¬ (z_M_heightOf_37_46 M x3) ≤ (z_M_heightOf_37_46 M (z_M_beside_37 M x2 x4)) → WX mi_M_nextOf 4 Q 6 [some (.ref 37), some (.ref 46), some (.int x2), some (.int (z_M_beside_37 M x2 x4)), some (.int (x4 + 1)), none, none] [] M) :
    WX mi_M_nextOf 4 Q 6 [some (.ref 37), some (.ref 46), some (.int x2), some (.int x3), some (.int x4), none, none] [] M := by
  refine WX.run (pc' := 9) (L' := [some (.ref 37), some (.ref 46), some (.int x2), some (.int x3), some (.int x4), none, none]) (st' := [.int 4, .int x4]) (M' := M) (P := True) 2 rfl trivial ?_
  refine WX.icmp_ge (off := 91) (tgt := 100) rfl rfl (fun c1 => ?_) (fun c1 => ?_)
  · refine WX.run (pc' := 101) (L' := [some (.ref 37), some (.ref 46), some (.int x2), some (.int x3), some (.int x4), none, none]) (st' := [.int x3]) (M' := M) (P := True) 1 rfl trivial ?_
    exact WX.iret rfl rfl (h1 c1)
  · refine WX.run (pc' := 16) (L' := [some (.ref 37), some (.ref 46), some (.int x2), some (.int x3), some (.int x4), none, none]) (st' := [.int x4, .int x2, .ref 37]) (M' := M) (P := True) 3 rfl trivial ?_
    refine WX.callV (ca := mi_M_beside) (n := 2) (d' := 3) (st := []) (As := [.int x2, .int x4]) (q := 37) rfl lk_7_169 ck_M_beside cv_M_beside rfl (by decide) rfl (Nat.le_of_ble_eq_true rfl) ⟨by decide, rfl, by decide⟩ (by intro w hw; simp only [List.mem_cons, List.not_mem_nil, or_false] at hw; rcases hw with rfl | rfl <;> rfl) (Nat.le_of_ble_eq_true rfl) ?_
    refine wx_M_beside_37 M x2 x4 ?_
    show WX mi_M_nextOf 4 Q 19 [some (.ref 37), some (.ref 46), some (.int x2), some (.int x3), some (.int x4), none, none] [.int (z_M_beside_37 M x2 x4)] M
    refine WX.run (pc' := 25) (L' := [some (.ref 37), some (.ref 46), some (.int x2), some (.int x3), some (.int x4), some (.int (z_M_beside_37 M x2 x4)), none]) (st' := [.int (-9), .int (z_M_beside_37 M x2 x4)]) (M' := M) (P := True) 3 rfl trivial ?_
    refine WX.icmp_eq (off := 32) (tgt := 57) rfl rfl (fun c2 => ?_) (fun c2 => ?_)
    · refine WX.run (pc' := 62) (L' := [some (.ref 37), some (.ref 46), some (.int x2), some (.int x3), some (.int x4), some (.int (z_M_beside_37 M x2 x4)), some (.int 0)]) (st' := [.int 0]) (M' := M) (P := True) 3 rfl trivial ?_
      refine WX.if_eq (off := 30) (tgt := 92) rfl rfl (fun _ => ?_) (fun c => absurd (by decide) c)
      refine WX.run (pc' := 6) (L' := [some (.ref 37), some (.ref 46), some (.int x2), some (.int x3), some (.int (x4 + 1)), some (.int (z_M_beside_37 M x2 x4)), some (.int 0)]) (st' := []) (M' := M) (P := True) 4 rfl trivial ?_
      refine WX.forget2 (L' := [some (.ref 37), some (.ref 46), some (.int x2), some (.int x3), some (.int (x4 + 1)), none, none]) ?_ ⟨Or.inr rfl, Or.inr rfl, Or.inr rfl, Or.inr rfl, Or.inr rfl, Or.inl rfl, Or.inl rfl, trivial⟩
      exact (h2 c1 c2)
    · refine WX.run (pc' := 31) (L' := [some (.ref 37), some (.ref 46), some (.int x2), some (.int x3), some (.int x4), some (.int (z_M_beside_37 M x2 x4)), none]) (st' := [.int (z_M_beside_37 M x2 x4), .ref 37]) (M' := M) (P := True) 2 rfl trivial ?_
      refine WX.callV (ca := mi_M_isLid) (n := 1) (d' := 1) (st := []) (As := [.int (z_M_beside_37 M x2 x4)]) (q := 37) rfl lk_7_134 ck_M_isLid cv_M_isLid rfl (by decide) rfl (Nat.le_of_ble_eq_true rfl) ⟨by decide, rfl, by decide⟩ (by intro w hw; simp only [List.mem_cons, List.not_mem_nil, or_false] at hw; rcases hw with rfl <;> rfl) (Nat.le_of_ble_eq_true rfl) ?_
      refine wx_M_isLid_37 M (z_M_beside_37 M x2 x4) ?_
      show WX mi_M_nextOf 4 Q 34 [some (.ref 37), some (.ref 46), some (.int x2), some (.int x3), some (.int x4), some (.int (z_M_beside_37 M x2 x4)), none] [.int (z_M_isLid_37 M (z_M_beside_37 M x2 x4))] M
      refine WX.if_ne (off := 23) (tgt := 57) rfl rfl (fun c3 => ?_) (fun c3 => ?_)
      · refine WX.run (pc' := 62) (L' := [some (.ref 37), some (.ref 46), some (.int x2), some (.int x3), some (.int x4), some (.int (z_M_beside_37 M x2 x4)), some (.int 0)]) (st' := [.int 0]) (M' := M) (P := True) 3 rfl trivial ?_
        refine WX.if_eq (off := 30) (tgt := 92) rfl rfl (fun _ => ?_) (fun c => absurd (by decide) c)
        refine WX.run (pc' := 6) (L' := [some (.ref 37), some (.ref 46), some (.int x2), some (.int x3), some (.int (x4 + 1)), some (.int (z_M_beside_37 M x2 x4)), some (.int 0)]) (st' := []) (M' := M) (P := True) 4 rfl trivial ?_
        refine WX.forget2 (L' := [some (.ref 37), some (.ref 46), some (.int x2), some (.int x3), some (.int (x4 + 1)), none, none]) ?_ ⟨Or.inr rfl, Or.inr rfl, Or.inr rfl, Or.inr rfl, Or.inr rfl, Or.inl rfl, Or.inl rfl, trivial⟩
        exact (h3 c1 c2 c3)
      · refine WX.run (pc' := 41) (L' := [some (.ref 37), some (.ref 46), some (.int x2), some (.int x3), some (.int x4), some (.int (z_M_beside_37 M x2 x4)), none]) (st' := [.int (z_M_beside_37 M x2 x4), .ref 46, .ref 37]) (M' := M) (P := True) 3 rfl trivial ?_
        refine WX.callV (ca := mi_M_heightOf) (n := 2) (d' := 2) (st := []) (As := [.ref 46, .int (z_M_beside_37 M x2 x4)]) (q := 37) rfl lk_7_178 ck_M_heightOf cv_M_heightOf rfl (by decide) rfl (Nat.le_of_ble_eq_true rfl) ⟨by decide, rfl, by decide⟩ (by intro w hw; simp only [List.mem_cons, List.not_mem_nil, or_false] at hw; rcases hw with rfl | rfl <;> rfl) (Nat.le_of_ble_eq_true rfl) ?_
        refine wx_M_heightOf_37_46 M (z_M_beside_37 M x2 x4) (b4 c1 c2 c3) ?_
        show WX mi_M_nextOf 4 Q 44 [some (.ref 37), some (.ref 46), some (.int x2), some (.int x3), some (.int x4), some (.int (z_M_beside_37 M x2 x4)), none] [.int (z_M_heightOf_37_46 M (z_M_beside_37 M x2 x4))] M
        refine WX.run (pc' := 47) (L' := [some (.ref 37), some (.ref 46), some (.int x2), some (.int x3), some (.int x4), some (.int (z_M_beside_37 M x2 x4)), none]) (st' := [.int x2, .ref 46, .ref 37, .int (z_M_heightOf_37_46 M (z_M_beside_37 M x2 x4))]) (M' := M) (P := True) 3 rfl trivial ?_
        refine WX.callV (ca := mi_M_heightOf) (n := 2) (d' := 2) (st := [.int (z_M_heightOf_37_46 M (z_M_beside_37 M x2 x4))]) (As := [.ref 46, .int x2]) (q := 37) rfl lk_7_178 ck_M_heightOf cv_M_heightOf rfl (by decide) rfl (Nat.le_of_ble_eq_true rfl) ⟨by decide, rfl, by decide⟩ (by intro w hw; simp only [List.mem_cons, List.not_mem_nil, or_false] at hw; rcases hw with rfl | rfl <;> rfl) (Nat.le_of_ble_eq_true rfl) ?_
        refine wx_M_heightOf_37_46 M x2 (b5 c1 c2 c3) ?_
        show WX mi_M_nextOf 4 Q 50 [some (.ref 37), some (.ref 46), some (.int x2), some (.int x3), some (.int x4), some (.int (z_M_beside_37 M x2 x4)), none] [.int (z_M_heightOf_37_46 M x2), .int (z_M_heightOf_37_46 M (z_M_beside_37 M x2 x4))] M
        refine WX.icmp_ge (off := 7) (tgt := 57) rfl rfl (fun c4 => ?_) (fun c4 => ?_)
        · refine WX.run (pc' := 62) (L' := [some (.ref 37), some (.ref 46), some (.int x2), some (.int x3), some (.int x4), some (.int (z_M_beside_37 M x2 x4)), some (.int 0)]) (st' := [.int 0]) (M' := M) (P := True) 3 rfl trivial ?_
          refine WX.if_eq (off := 30) (tgt := 92) rfl rfl (fun _ => ?_) (fun c => absurd (by decide) c)
          refine WX.run (pc' := 6) (L' := [some (.ref 37), some (.ref 46), some (.int x2), some (.int x3), some (.int (x4 + 1)), some (.int (z_M_beside_37 M x2 x4)), some (.int 0)]) (st' := []) (M' := M) (P := True) 4 rfl trivial ?_
          refine WX.forget2 (L' := [some (.ref 37), some (.ref 46), some (.int x2), some (.int x3), some (.int (x4 + 1)), none, none]) ?_ ⟨Or.inr rfl, Or.inr rfl, Or.inr rfl, Or.inr rfl, Or.inr rfl, Or.inl rfl, Or.inl rfl, trivial⟩
          exact (h6 c1 c2 c3 c4)
        · refine WX.run (pc' := 62) (L' := [some (.ref 37), some (.ref 46), some (.int x2), some (.int x3), some (.int x4), some (.int (z_M_beside_37 M x2 x4)), some (.int 1)]) (st' := [.int 1]) (M' := M) (P := True) 4 rfl trivial ?_
          refine WX.if_eq (off := 30) (tgt := 92) rfl rfl (fun c => absurd c (by decide)) (fun _ => ?_)
          refine WX.run (pc' := 68) (L' := [some (.ref 37), some (.ref 46), some (.int x2), some (.int x3), some (.int x4), some (.int (z_M_beside_37 M x2 x4)), some (.int 1)]) (st' := [.int (-9), .int x3]) (M' := M) (P := True) 2 rfl trivial ?_
          refine WX.icmp_eq (off := 19) (tgt := 87) rfl rfl (fun c5 => ?_) (fun c5 => ?_)
          · refine WX.run (pc' := 6) (L' := [some (.ref 37), some (.ref 46), some (.int x2), some (.int (z_M_beside_37 M x2 x4)), some (.int (x4 + 1)), some (.int (z_M_beside_37 M x2 x4)), some (.int 1)]) (st' := []) (M' := M) (P := True) 5 rfl trivial ?_
            refine WX.forget2 (L' := [some (.ref 37), some (.ref 46), some (.int x2), some (.int (z_M_beside_37 M x2 x4)), some (.int (x4 + 1)), none, none]) ?_ ⟨Or.inr rfl, Or.inr rfl, Or.inr rfl, Or.inr rfl, Or.inr rfl, Or.inl rfl, Or.inl rfl, trivial⟩
            exact (h7 c1 c2 c3 c4 c5)
          · refine WX.run (pc' := 75) (L' := [some (.ref 37), some (.ref 46), some (.int x2), some (.int x3), some (.int x4), some (.int (z_M_beside_37 M x2 x4)), some (.int 1)]) (st' := [.int (z_M_beside_37 M x2 x4), .ref 46, .ref 37]) (M' := M) (P := True) 3 rfl trivial ?_
            refine WX.callV (ca := mi_M_heightOf) (n := 2) (d' := 2) (st := []) (As := [.ref 46, .int (z_M_beside_37 M x2 x4)]) (q := 37) rfl lk_7_178 ck_M_heightOf cv_M_heightOf rfl (by decide) rfl (Nat.le_of_ble_eq_true rfl) ⟨by decide, rfl, by decide⟩ (by intro w hw; simp only [List.mem_cons, List.not_mem_nil, or_false] at hw; rcases hw with rfl | rfl <;> rfl) (Nat.le_of_ble_eq_true rfl) ?_
            refine wx_M_heightOf_37_46 M (z_M_beside_37 M x2 x4) (b8 c1 c2 c3 c4 c5) ?_
            show WX mi_M_nextOf 4 Q 78 [some (.ref 37), some (.ref 46), some (.int x2), some (.int x3), some (.int x4), some (.int (z_M_beside_37 M x2 x4)), some (.int 1)] [.int (z_M_heightOf_37_46 M (z_M_beside_37 M x2 x4))] M
            refine WX.run (pc' := 81) (L' := [some (.ref 37), some (.ref 46), some (.int x2), some (.int x3), some (.int x4), some (.int (z_M_beside_37 M x2 x4)), some (.int 1)]) (st' := [.int x3, .ref 46, .ref 37, .int (z_M_heightOf_37_46 M (z_M_beside_37 M x2 x4))]) (M' := M) (P := True) 3 rfl trivial ?_
            refine WX.callV (ca := mi_M_heightOf) (n := 2) (d' := 2) (st := [.int (z_M_heightOf_37_46 M (z_M_beside_37 M x2 x4))]) (As := [.ref 46, .int x3]) (q := 37) rfl lk_7_178 ck_M_heightOf cv_M_heightOf rfl (by decide) rfl (Nat.le_of_ble_eq_true rfl) ⟨by decide, rfl, by decide⟩ (by intro w hw; simp only [List.mem_cons, List.not_mem_nil, or_false] at hw; rcases hw with rfl | rfl <;> rfl) (Nat.le_of_ble_eq_true rfl) ?_
            refine wx_M_heightOf_37_46 M x3 (b9 c1 c2 c3 c4 c5) ?_
            show WX mi_M_nextOf 4 Q 84 [some (.ref 37), some (.ref 46), some (.int x2), some (.int x3), some (.int x4), some (.int (z_M_beside_37 M x2 x4)), some (.int 1)] [.int (z_M_heightOf_37_46 M x3), .int (z_M_heightOf_37_46 M (z_M_beside_37 M x2 x4))] M
            refine WX.icmp_ge (off := 8) (tgt := 92) rfl rfl (fun c6 => ?_) (fun c6 => ?_)
            · refine WX.run (pc' := 6) (L' := [some (.ref 37), some (.ref 46), some (.int x2), some (.int x3), some (.int (x4 + 1)), some (.int (z_M_beside_37 M x2 x4)), some (.int 1)]) (st' := []) (M' := M) (P := True) 4 rfl trivial ?_
              refine WX.forget2 (L' := [some (.ref 37), some (.ref 46), some (.int x2), some (.int x3), some (.int (x4 + 1)), none, none]) ?_ ⟨Or.inr rfl, Or.inr rfl, Or.inr rfl, Or.inr rfl, Or.inr rfl, Or.inl rfl, Or.inl rfl, trivial⟩
              exact (h10 c1 c2 c3 c4 c5 c6)
            · refine WX.run (pc' := 6) (L' := [some (.ref 37), some (.ref 46), some (.int x2), some (.int (z_M_beside_37 M x2 x4)), some (.int (x4 + 1)), some (.int (z_M_beside_37 M x2 x4)), some (.int 1)]) (st' := []) (M' := M) (P := True) 5 rfl trivial ?_
              refine WX.forget2 (L' := [some (.ref 37), some (.ref 46), some (.int x2), some (.int (z_M_beside_37 M x2 x4)), some (.int (x4 + 1)), none, none]) ?_ ⟨Or.inr rfl, Or.inr rfl, Or.inr rfl, Or.inr rfl, Or.inr rfl, Or.inl rfl, Or.inl rfl, trivial⟩
              exact (h11 c1 c2 c3 c4 c5 c6)
theorem sg_M_puddles_37_46_0 {Q : Option Value → Mem → Prop} (M : Mem)
    (h1 : WX mi_M_puddles 5 Q 4 [some (.ref 37), some (.ref 46), some (.int 0), some (.int 0)] [] M) :
    WX mi_M_puddles 5 Q 0 [some (.ref 37), some (.ref 46), none, none] [] M := by
  refine WX.run (pc' := 4) (L' := [some (.ref 37), some (.ref 46), some (.int 0), some (.int 0)]) (st' := []) (M' := M) (P := True) 4 rfl trivial ?_
  exact h1
theorem sg_M_puddles_37_46_4 {Q : Option Value → Mem → Prop} (M : Mem) (x2 x3 : Int32)
    (h1 : 16 ≤ x3 → Q (some (.int x2)) M)
    (b2 : ¬ 16 ≤ x3 → ((z_M_isCell_37 M (rem x3 4) (x3 / 4)) = 0 ∨ (z_M_isCell_37 M (rem x3 4) (x3 / 4)) = 1))
    (h3 : ¬ 16 ≤ x3 → (z_M_isDry_37 M x3) = 0 → WX mi_M_puddles 5 Q 4 [some (.ref 37), some (.ref 46), some (.int (x2 ||| 0)), some (.int (x3 + 1))] [] M)
    (h4 : ¬ 16 ≤ x3 → ¬ (z_M_isDry_37 M x3) = 0 → ¬ (z_M_isDrain_37 M x3) = 0 → WX mi_M_puddles 5 Q 4 [some (.ref 37), some (.ref 46), some (.int (x2 ||| 0)), some (.int (x3 + 1))] [] M)
    (h5 : ¬ 16 ≤ x3 → ¬ (z_M_isDry_37 M x3) = 0 → (z_M_isDrain_37 M x3) = 0 → WX mi_M_nextOf 4 (fun rv M' => WX mi_M_puddles 5 Q 33 [some (.ref 37), some (.ref 46), some (.int x2), some (.int x3)] (rv.toList ++ [.int x2]) M') 0 [some (.ref 37), some (.ref 46), some (.int x3), none, none, none, none] [] M) :
    WX mi_M_puddles 5 Q 4 [some (.ref 37), some (.ref 46), some (.int x2), some (.int x3)] [] M := by
  refine WX.run (pc' := 7) (L' := [some (.ref 37), some (.ref 46), some (.int x2), some (.int x3)]) (st' := [.int 16, .int x3]) (M' := M) (P := True) 2 rfl trivial ?_
  refine WX.icmp_ge (off := 46) (tgt := 53) rfl rfl (fun c1 => ?_) (fun c1 => ?_)
  · refine WX.run (pc' := 54) (L' := [some (.ref 37), some (.ref 46), some (.int x2), some (.int x3)]) (st' := [.int x2]) (M' := M) (P := True) 1 rfl trivial ?_
    exact WX.iret rfl rfl (h1 c1)
  · refine WX.run (pc' := 13) (L' := [some (.ref 37), some (.ref 46), some (.int x2), some (.int x3)]) (st' := [.int x3, .ref 37, .int x2]) (M' := M) (P := True) 3 rfl trivial ?_
    refine WX.callV (ca := mi_M_isDry) (n := 1) (d' := 4) (st := [.int x2]) (As := [.int x3]) (q := 37) rfl lk_7_184 ck_M_isDry cv_M_isDry rfl (by decide) rfl (Nat.le_of_ble_eq_true rfl) ⟨by decide, rfl, by decide⟩ (by intro w hw; simp only [List.mem_cons, List.not_mem_nil, or_false] at hw; rcases hw with rfl <;> rfl) (Nat.le_of_ble_eq_true rfl) ?_
    refine wx_M_isDry_37 M x3 (b2 c1) ?_
    show WX mi_M_puddles 5 Q 16 [some (.ref 37), some (.ref 46), some (.int x2), some (.int x3)] [.int (z_M_isDry_37 M x3), .int x2] M
    refine WX.if_eq (off := 28) (tgt := 44) rfl rfl (fun c2 => ?_) (fun c2 => ?_)
    · refine WX.run (pc' := 4) (L' := [some (.ref 37), some (.ref 46), some (.int (x2 ||| 0)), some (.int (x3 + 1))]) (st' := []) (M' := M) (P := True) 5 rfl trivial ?_
      exact (h3 c1 c2)
    · refine WX.run (pc' := 21) (L' := [some (.ref 37), some (.ref 46), some (.int x2), some (.int x3)]) (st' := [.int x3, .ref 37, .int x2]) (M' := M) (P := True) 2 rfl trivial ?_
      refine WX.callV (ca := mi_M_isDrain) (n := 1) (d' := 1) (st := [.int x2]) (As := [.int x3]) (q := 37) rfl lk_7_138 ck_M_isDrain cv_M_isDrain rfl (by decide) rfl (Nat.le_of_ble_eq_true rfl) ⟨by decide, rfl, by decide⟩ (by intro w hw; simp only [List.mem_cons, List.not_mem_nil, or_false] at hw; rcases hw with rfl <;> rfl) (Nat.le_of_ble_eq_true rfl) ?_
      refine wx_M_isDrain_37 M x3 ?_
      show WX mi_M_puddles 5 Q 24 [some (.ref 37), some (.ref 46), some (.int x2), some (.int x3)] [.int (z_M_isDrain_37 M x3), .int x2] M
      refine WX.if_ne (off := 20) (tgt := 44) rfl rfl (fun c3 => ?_) (fun c3 => ?_)
      · refine WX.run (pc' := 4) (L' := [some (.ref 37), some (.ref 46), some (.int (x2 ||| 0)), some (.int (x3 + 1))]) (st' := []) (M' := M) (P := True) 5 rfl trivial ?_
        exact (h4 c1 c2 c3)
      · refine WX.run (pc' := 30) (L' := [some (.ref 37), some (.ref 46), some (.int x2), some (.int x3)]) (st' := [.int x3, .ref 46, .ref 37, .int x2]) (M' := M) (P := True) 3 rfl trivial ?_
        refine WX.callV (ca := mi_M_nextOf) (n := 2) (d' := 4) (st := [.int x2]) (As := [.ref 46, .int x3]) (q := 37) rfl lk_7_181 ck_M_nextOf cv_M_nextOf rfl (by decide) rfl (Nat.le_of_ble_eq_true rfl) ⟨by decide, rfl, by decide⟩ (by intro w hw; simp only [List.mem_cons, List.not_mem_nil, or_false] at hw; rcases hw with rfl | rfl <;> rfl) (Nat.le_of_ble_eq_true rfl) ?_
        exact (h5 c1 c2 c3)
theorem sg_M_puddles_37_46_33 {Q : Option Value → Mem → Prop} (M : Mem) (x2 x3 r s1 : Int32)
    (h1 : ¬ r = (-9) → WX mi_M_puddles 5 Q 4 [some (.ref 37), some (.ref 46), some (.int (s1 ||| 0)), some (.int (x3 + 1))] [] M)
    (h2 : r = (-9) → WX mi_M_puddles 5 Q 4 [some (.ref 37), some (.ref 46), some (.int (s1 ||| (shl 1 x3))), some (.int (x3 + 1))] [] M) :
    WX mi_M_puddles 5 Q 33 [some (.ref 37), some (.ref 46), some (.int x2), some (.int x3)] [.int r, .int s1] M := by
  refine WX.run (pc' := 35) (L' := [some (.ref 37), some (.ref 46), some (.int x2), some (.int x3)]) (st' := [.int (-9), .int r, .int s1]) (M' := M) (P := True) 1 rfl trivial ?_
  refine WX.icmp_ne (off := 9) (tgt := 44) rfl rfl (fun c1 => ?_) (fun c1 => ?_)
  · refine WX.run (pc' := 4) (L' := [some (.ref 37), some (.ref 46), some (.int (s1 ||| 0)), some (.int (x3 + 1))]) (st' := []) (M' := M) (P := True) 5 rfl trivial ?_
    exact (h1 c1)
  · refine WX.run (pc' := 4) (L' := [some (.ref 37), some (.ref 46), some (.int (s1 ||| (shl 1 x3))), some (.int (x3 + 1))]) (st' := []) (M' := M) (P := True) 8 rfl trivial ?_
    exact (h2 c1)
theorem sg_M_heightOf_37_48_0 {Q : Option Value → Mem → Prop} (M : Mem) (x2 : Int32)
    (b1 : (z_M_isDrain_37 M x2) = 0 → vp_in x2 16)
    (h2 : (z_M_isDrain_37 M x2) = 0 → Q (some (.int (M.1 48 x2.toNatClampNeg))) M)
    (h3 : ¬ (z_M_isDrain_37 M x2) = 0 → Q (some (.int (-1))) M) :
    WX mi_M_heightOf 2 Q 0 [some (.ref 37), some (.ref 48), some (.int x2)] [] M := by
  refine WX.run (pc' := 2) (L' := [some (.ref 37), some (.ref 48), some (.int x2)]) (st' := [.int x2, .ref 37]) (M' := M) (P := True) 2 rfl trivial ?_
  refine WX.callV (ca := mi_M_isDrain) (n := 1) (d' := 1) (st := []) (As := [.int x2]) (q := 37) rfl lk_7_138 ck_M_isDrain cv_M_isDrain rfl (by decide) rfl (Nat.le_of_ble_eq_true rfl) ⟨by decide, rfl, by decide⟩ (by intro w hw; simp only [List.mem_cons, List.not_mem_nil, or_false] at hw; rcases hw with rfl <;> rfl) (Nat.le_of_ble_eq_true rfl) ?_
  refine wx_M_isDrain_37 M x2 ?_
  show WX mi_M_heightOf 2 Q 5 [some (.ref 37), some (.ref 48), some (.int x2)] [.int (z_M_isDrain_37 M x2)] M
  refine WX.if_eq (off := 7) (tgt := 12) rfl rfl (fun c1 => ?_) (fun c1 => ?_)
  · refine WX.run (pc' := 15) (L' := [some (.ref 37), some (.ref 48), some (.int x2)]) (st' := [.int (M.1 48 x2.toNatClampNeg)]) (M' := M) (P := (True ∧ vp_in x2 16)) 3 rfl ⟨trivial, (b1 c1)⟩ ?_
    exact WX.iret rfl rfl (h2 c1)
  · refine WX.run (pc' := 15) (L' := [some (.ref 37), some (.ref 48), some (.int x2)]) (st' := [.int (-1)]) (M' := M) (P := True) 2 rfl trivial ?_
    exact WX.iret rfl rfl (h3 c1)
def z_M_heightOf_37_48 (M : Mem) (x2 : Int32) : Int32 := (if (z_M_isDrain_37 M x2) = 0 then (M.1 48 x2.toNatClampNeg) else (-1))
theorem wx_M_heightOf_37_48 {Q : Option Value → Mem → Prop} (M : Mem) (x2 : Int32)
    (b1 : (z_M_isDrain_37 M x2) = 0 → vp_in x2 16)
    (h : Q (some (.int (z_M_heightOf_37_48 M x2))) M) :
    WX mi_M_heightOf 2 Q 0 [some (.ref 37), some (.ref 48), some (.int x2)] [] M := by
  refine sg_M_heightOf_37_48_0 M x2
    b1
    (fun c1 => by
      unfold z_M_heightOf_37_48 at h
      rw [if_pos c1] at h
      exact h)
    (fun c1 => by
      unfold z_M_heightOf_37_48 at h
      rw [if_neg c1] at h
      exact h)
theorem sg_M_nextOf_37_48_0 {Q : Option Value → Mem → Prop} (M : Mem) (x2 : Int32)
    (h1 : WX mi_M_nextOf 4 Q 6 [some (.ref 37), some (.ref 48), some (.int x2), some (.int (-9)), some (.int 0), none, none] [] M) :
    WX mi_M_nextOf 4 Q 0 [some (.ref 37), some (.ref 48), some (.int x2), none, none, none, none] [] M := by
  refine WX.run (pc' := 6) (L' := [some (.ref 37), some (.ref 48), some (.int x2), some (.int (-9)), some (.int 0), none, none]) (st' := []) (M' := M) (P := True) 4 rfl trivial ?_
  exact h1
theorem sg_M_nextOf_37_48_6 {Q : Option Value → Mem → Prop} (M : Mem) (x2 x3 x4 : Int32)
    (h1 : 4 ≤ x4 → Q (some (.int x3)) M)
    (h2 : ¬ 4 ≤ x4 → (z_M_beside_37 M x2 x4) = (-9) → WX mi_M_nextOf 4 Q 6 [some (.ref 37), some (.ref 48), some (.int x2), some (.int x3), some (.int (x4 + 1)), none, none] [] M)
    (h3 : ¬ 4 ≤ x4 → ¬ (z_M_beside_37 M x2 x4) = (-9) → ¬ (z_M_isLid_37 M (z_M_beside_37 M x2 x4)) = 0 → WX mi_M_nextOf 4 Q 6 [some (.ref 37), some (.ref 48), some (.int x2), some (.int x3), some (.int (x4 + 1)), none, none] [] M)
    (b4 : ¬ 4 ≤ x4 → ¬ (z_M_beside_37 M x2 x4) = (-9) → (z_M_isLid_37 M (z_M_beside_37 M x2 x4)) = 0 → (z_M_isDrain_37 M (z_M_beside_37 M x2 x4)) = 0 → vp_in (z_M_beside_37 M x2 x4) 16)
    (b5 : ¬ 4 ≤ x4 → ¬ (z_M_beside_37 M x2 x4) = (-9) → (z_M_isLid_37 M (z_M_beside_37 M x2 x4)) = 0 → (z_M_isDrain_37 M x2) = 0 → vp_in x2 16)
    (h6 : ¬ 4 ≤ x4 → ¬ (z_M_beside_37 M x2 x4) = (-9) → (z_M_isLid_37 M (z_M_beside_37 M x2 x4)) = 0 → (z_M_heightOf_37_48 M x2) ≤ (z_M_heightOf_37_48 M (z_M_beside_37 M x2 x4)) → WX mi_M_nextOf 4 Q 6 [some (.ref 37), some (.ref 48), some (.int x2), some (.int x3), some (.int (x4 + 1)), none, none] [] M)
    (h7 : ¬ 4 ≤ x4 → ¬ (z_M_beside_37 M x2 x4) = (-9) → (z_M_isLid_37 M (z_M_beside_37 M x2 x4)) = 0 → ¬ (z_M_heightOf_37_48 M x2) ≤ (z_M_heightOf_37_48 M (z_M_beside_37 M x2 x4)) → x3 = (-9) → WX mi_M_nextOf 4 Q 6 [some (.ref 37), some (.ref 48), some (.int x2), some (.int (z_M_beside_37 M x2 x4)), some (.int (x4 + 1)), none, none] [] M)
    (b8 : ¬ 4 ≤ x4 → ¬ (z_M_beside_37 M x2 x4) = (-9) → (z_M_isLid_37 M (z_M_beside_37 M x2 x4)) = 0 → ¬ (z_M_heightOf_37_48 M x2) ≤ (z_M_heightOf_37_48 M (z_M_beside_37 M x2 x4)) → ¬ x3 = (-9) → (z_M_isDrain_37 M (z_M_beside_37 M x2 x4)) = 0 → vp_in (z_M_beside_37 M x2 x4) 16)
    (b9 : ¬ 4 ≤ x4 → ¬ (z_M_beside_37 M x2 x4) = (-9) → (z_M_isLid_37 M (z_M_beside_37 M x2 x4)) = 0 → ¬ (z_M_heightOf_37_48 M x2) ≤ (z_M_heightOf_37_48 M (z_M_beside_37 M x2 x4)) → ¬ x3 = (-9) → (z_M_isDrain_37 M x3) = 0 → vp_in x3 16)
    (h10 : ¬ 4 ≤ x4 → ¬ (z_M_beside_37 M x2 x4) = (-9) → (z_M_isLid_37 M (z_M_beside_37 M x2 x4)) = 0 → ¬ (z_M_heightOf_37_48 M x2) ≤ (z_M_heightOf_37_48 M (z_M_beside_37 M x2 x4)) → ¬ x3 = (-9) → (z_M_heightOf_37_48 M x3) ≤ (z_M_heightOf_37_48 M (z_M_beside_37 M x2 x4)) → WX mi_M_nextOf 4 Q 6 [some (.ref 37), some (.ref 48), some (.int x2), some (.int x3), some (.int (x4 + 1)), none, none] [] M)
    (h11 : ¬ 4 ≤ x4 → ¬ (z_M_beside_37 M x2 x4) = (-9) → (z_M_isLid_37 M (z_M_beside_37 M x2 x4)) = 0 → ¬ (z_M_heightOf_37_48 M x2) ≤ (z_M_heightOf_37_48 M (z_M_beside_37 M x2 x4)) → ¬ x3 = (-9) → ¬ (z_M_heightOf_37_48 M x3) ≤ (z_M_heightOf_37_48 M (z_M_beside_37 M x2 x4)) → WX mi_M_nextOf 4 Q 6 [some (.ref 37), some (.ref 48), some (.int x2), some (.int (z_M_beside_37 M x2 x4)), some (.int (x4 + 1)), none, none] [] M) :
    WX mi_M_nextOf 4 Q 6 [some (.ref 37), some (.ref 48), some (.int x2), some (.int x3), some (.int x4), none, none] [] M := by
  refine WX.run (pc' := 9) (L' := [some (.ref 37), some (.ref 48), some (.int x2), some (.int x3), some (.int x4), none, none]) (st' := [.int 4, .int x4]) (M' := M) (P := True) 2 rfl trivial ?_
  refine WX.icmp_ge (off := 91) (tgt := 100) rfl rfl (fun c1 => ?_) (fun c1 => ?_)
  · refine WX.run (pc' := 101) (L' := [some (.ref 37), some (.ref 48), some (.int x2), some (.int x3), some (.int x4), none, none]) (st' := [.int x3]) (M' := M) (P := True) 1 rfl trivial ?_
    exact WX.iret rfl rfl (h1 c1)
  · refine WX.run (pc' := 16) (L' := [some (.ref 37), some (.ref 48), some (.int x2), some (.int x3), some (.int x4), none, none]) (st' := [.int x4, .int x2, .ref 37]) (M' := M) (P := True) 3 rfl trivial ?_
    refine WX.callV (ca := mi_M_beside) (n := 2) (d' := 3) (st := []) (As := [.int x2, .int x4]) (q := 37) rfl lk_7_169 ck_M_beside cv_M_beside rfl (by decide) rfl (Nat.le_of_ble_eq_true rfl) ⟨by decide, rfl, by decide⟩ (by intro w hw; simp only [List.mem_cons, List.not_mem_nil, or_false] at hw; rcases hw with rfl | rfl <;> rfl) (Nat.le_of_ble_eq_true rfl) ?_
    refine wx_M_beside_37 M x2 x4 ?_
    show WX mi_M_nextOf 4 Q 19 [some (.ref 37), some (.ref 48), some (.int x2), some (.int x3), some (.int x4), none, none] [.int (z_M_beside_37 M x2 x4)] M
    refine WX.run (pc' := 25) (L' := [some (.ref 37), some (.ref 48), some (.int x2), some (.int x3), some (.int x4), some (.int (z_M_beside_37 M x2 x4)), none]) (st' := [.int (-9), .int (z_M_beside_37 M x2 x4)]) (M' := M) (P := True) 3 rfl trivial ?_
    refine WX.icmp_eq (off := 32) (tgt := 57) rfl rfl (fun c2 => ?_) (fun c2 => ?_)
    · refine WX.run (pc' := 62) (L' := [some (.ref 37), some (.ref 48), some (.int x2), some (.int x3), some (.int x4), some (.int (z_M_beside_37 M x2 x4)), some (.int 0)]) (st' := [.int 0]) (M' := M) (P := True) 3 rfl trivial ?_
      refine WX.if_eq (off := 30) (tgt := 92) rfl rfl (fun _ => ?_) (fun c => absurd (by decide) c)
      refine WX.run (pc' := 6) (L' := [some (.ref 37), some (.ref 48), some (.int x2), some (.int x3), some (.int (x4 + 1)), some (.int (z_M_beside_37 M x2 x4)), some (.int 0)]) (st' := []) (M' := M) (P := True) 4 rfl trivial ?_
      refine WX.forget2 (L' := [some (.ref 37), some (.ref 48), some (.int x2), some (.int x3), some (.int (x4 + 1)), none, none]) ?_ ⟨Or.inr rfl, Or.inr rfl, Or.inr rfl, Or.inr rfl, Or.inr rfl, Or.inl rfl, Or.inl rfl, trivial⟩
      exact (h2 c1 c2)
    · refine WX.run (pc' := 31) (L' := [some (.ref 37), some (.ref 48), some (.int x2), some (.int x3), some (.int x4), some (.int (z_M_beside_37 M x2 x4)), none]) (st' := [.int (z_M_beside_37 M x2 x4), .ref 37]) (M' := M) (P := True) 2 rfl trivial ?_
      refine WX.callV (ca := mi_M_isLid) (n := 1) (d' := 1) (st := []) (As := [.int (z_M_beside_37 M x2 x4)]) (q := 37) rfl lk_7_134 ck_M_isLid cv_M_isLid rfl (by decide) rfl (Nat.le_of_ble_eq_true rfl) ⟨by decide, rfl, by decide⟩ (by intro w hw; simp only [List.mem_cons, List.not_mem_nil, or_false] at hw; rcases hw with rfl <;> rfl) (Nat.le_of_ble_eq_true rfl) ?_
      refine wx_M_isLid_37 M (z_M_beside_37 M x2 x4) ?_
      show WX mi_M_nextOf 4 Q 34 [some (.ref 37), some (.ref 48), some (.int x2), some (.int x3), some (.int x4), some (.int (z_M_beside_37 M x2 x4)), none] [.int (z_M_isLid_37 M (z_M_beside_37 M x2 x4))] M
      refine WX.if_ne (off := 23) (tgt := 57) rfl rfl (fun c3 => ?_) (fun c3 => ?_)
      · refine WX.run (pc' := 62) (L' := [some (.ref 37), some (.ref 48), some (.int x2), some (.int x3), some (.int x4), some (.int (z_M_beside_37 M x2 x4)), some (.int 0)]) (st' := [.int 0]) (M' := M) (P := True) 3 rfl trivial ?_
        refine WX.if_eq (off := 30) (tgt := 92) rfl rfl (fun _ => ?_) (fun c => absurd (by decide) c)
        refine WX.run (pc' := 6) (L' := [some (.ref 37), some (.ref 48), some (.int x2), some (.int x3), some (.int (x4 + 1)), some (.int (z_M_beside_37 M x2 x4)), some (.int 0)]) (st' := []) (M' := M) (P := True) 4 rfl trivial ?_
        refine WX.forget2 (L' := [some (.ref 37), some (.ref 48), some (.int x2), some (.int x3), some (.int (x4 + 1)), none, none]) ?_ ⟨Or.inr rfl, Or.inr rfl, Or.inr rfl, Or.inr rfl, Or.inr rfl, Or.inl rfl, Or.inl rfl, trivial⟩
        exact (h3 c1 c2 c3)
      · refine WX.run (pc' := 41) (L' := [some (.ref 37), some (.ref 48), some (.int x2), some (.int x3), some (.int x4), some (.int (z_M_beside_37 M x2 x4)), none]) (st' := [.int (z_M_beside_37 M x2 x4), .ref 48, .ref 37]) (M' := M) (P := True) 3 rfl trivial ?_
        refine WX.callV (ca := mi_M_heightOf) (n := 2) (d' := 2) (st := []) (As := [.ref 48, .int (z_M_beside_37 M x2 x4)]) (q := 37) rfl lk_7_178 ck_M_heightOf cv_M_heightOf rfl (by decide) rfl (Nat.le_of_ble_eq_true rfl) ⟨by decide, rfl, by decide⟩ (by intro w hw; simp only [List.mem_cons, List.not_mem_nil, or_false] at hw; rcases hw with rfl | rfl <;> rfl) (Nat.le_of_ble_eq_true rfl) ?_
        refine wx_M_heightOf_37_48 M (z_M_beside_37 M x2 x4) (b4 c1 c2 c3) ?_
        show WX mi_M_nextOf 4 Q 44 [some (.ref 37), some (.ref 48), some (.int x2), some (.int x3), some (.int x4), some (.int (z_M_beside_37 M x2 x4)), none] [.int (z_M_heightOf_37_48 M (z_M_beside_37 M x2 x4))] M
        refine WX.run (pc' := 47) (L' := [some (.ref 37), some (.ref 48), some (.int x2), some (.int x3), some (.int x4), some (.int (z_M_beside_37 M x2 x4)), none]) (st' := [.int x2, .ref 48, .ref 37, .int (z_M_heightOf_37_48 M (z_M_beside_37 M x2 x4))]) (M' := M) (P := True) 3 rfl trivial ?_
        refine WX.callV (ca := mi_M_heightOf) (n := 2) (d' := 2) (st := [.int (z_M_heightOf_37_48 M (z_M_beside_37 M x2 x4))]) (As := [.ref 48, .int x2]) (q := 37) rfl lk_7_178 ck_M_heightOf cv_M_heightOf rfl (by decide) rfl (Nat.le_of_ble_eq_true rfl) ⟨by decide, rfl, by decide⟩ (by intro w hw; simp only [List.mem_cons, List.not_mem_nil, or_false] at hw; rcases hw with rfl | rfl <;> rfl) (Nat.le_of_ble_eq_true rfl) ?_
        refine wx_M_heightOf_37_48 M x2 (b5 c1 c2 c3) ?_
        show WX mi_M_nextOf 4 Q 50 [some (.ref 37), some (.ref 48), some (.int x2), some (.int x3), some (.int x4), some (.int (z_M_beside_37 M x2 x4)), none] [.int (z_M_heightOf_37_48 M x2), .int (z_M_heightOf_37_48 M (z_M_beside_37 M x2 x4))] M
        refine WX.icmp_ge (off := 7) (tgt := 57) rfl rfl (fun c4 => ?_) (fun c4 => ?_)
        · refine WX.run (pc' := 62) (L' := [some (.ref 37), some (.ref 48), some (.int x2), some (.int x3), some (.int x4), some (.int (z_M_beside_37 M x2 x4)), some (.int 0)]) (st' := [.int 0]) (M' := M) (P := True) 3 rfl trivial ?_
          refine WX.if_eq (off := 30) (tgt := 92) rfl rfl (fun _ => ?_) (fun c => absurd (by decide) c)
          refine WX.run (pc' := 6) (L' := [some (.ref 37), some (.ref 48), some (.int x2), some (.int x3), some (.int (x4 + 1)), some (.int (z_M_beside_37 M x2 x4)), some (.int 0)]) (st' := []) (M' := M) (P := True) 4 rfl trivial ?_
          refine WX.forget2 (L' := [some (.ref 37), some (.ref 48), some (.int x2), some (.int x3), some (.int (x4 + 1)), none, none]) ?_ ⟨Or.inr rfl, Or.inr rfl, Or.inr rfl, Or.inr rfl, Or.inr rfl, Or.inl rfl, Or.inl rfl, trivial⟩
          exact (h6 c1 c2 c3 c4)
        · refine WX.run (pc' := 62) (L' := [some (.ref 37), some (.ref 48), some (.int x2), some (.int x3), some (.int x4), some (.int (z_M_beside_37 M x2 x4)), some (.int 1)]) (st' := [.int 1]) (M' := M) (P := True) 4 rfl trivial ?_
          refine WX.if_eq (off := 30) (tgt := 92) rfl rfl (fun c => absurd c (by decide)) (fun _ => ?_)
          refine WX.run (pc' := 68) (L' := [some (.ref 37), some (.ref 48), some (.int x2), some (.int x3), some (.int x4), some (.int (z_M_beside_37 M x2 x4)), some (.int 1)]) (st' := [.int (-9), .int x3]) (M' := M) (P := True) 2 rfl trivial ?_
          refine WX.icmp_eq (off := 19) (tgt := 87) rfl rfl (fun c5 => ?_) (fun c5 => ?_)
          · refine WX.run (pc' := 6) (L' := [some (.ref 37), some (.ref 48), some (.int x2), some (.int (z_M_beside_37 M x2 x4)), some (.int (x4 + 1)), some (.int (z_M_beside_37 M x2 x4)), some (.int 1)]) (st' := []) (M' := M) (P := True) 5 rfl trivial ?_
            refine WX.forget2 (L' := [some (.ref 37), some (.ref 48), some (.int x2), some (.int (z_M_beside_37 M x2 x4)), some (.int (x4 + 1)), none, none]) ?_ ⟨Or.inr rfl, Or.inr rfl, Or.inr rfl, Or.inr rfl, Or.inr rfl, Or.inl rfl, Or.inl rfl, trivial⟩
            exact (h7 c1 c2 c3 c4 c5)
          · refine WX.run (pc' := 75) (L' := [some (.ref 37), some (.ref 48), some (.int x2), some (.int x3), some (.int x4), some (.int (z_M_beside_37 M x2 x4)), some (.int 1)]) (st' := [.int (z_M_beside_37 M x2 x4), .ref 48, .ref 37]) (M' := M) (P := True) 3 rfl trivial ?_
            refine WX.callV (ca := mi_M_heightOf) (n := 2) (d' := 2) (st := []) (As := [.ref 48, .int (z_M_beside_37 M x2 x4)]) (q := 37) rfl lk_7_178 ck_M_heightOf cv_M_heightOf rfl (by decide) rfl (Nat.le_of_ble_eq_true rfl) ⟨by decide, rfl, by decide⟩ (by intro w hw; simp only [List.mem_cons, List.not_mem_nil, or_false] at hw; rcases hw with rfl | rfl <;> rfl) (Nat.le_of_ble_eq_true rfl) ?_
            refine wx_M_heightOf_37_48 M (z_M_beside_37 M x2 x4) (b8 c1 c2 c3 c4 c5) ?_
            show WX mi_M_nextOf 4 Q 78 [some (.ref 37), some (.ref 48), some (.int x2), some (.int x3), some (.int x4), some (.int (z_M_beside_37 M x2 x4)), some (.int 1)] [.int (z_M_heightOf_37_48 M (z_M_beside_37 M x2 x4))] M
            refine WX.run (pc' := 81) (L' := [some (.ref 37), some (.ref 48), some (.int x2), some (.int x3), some (.int x4), some (.int (z_M_beside_37 M x2 x4)), some (.int 1)]) (st' := [.int x3, .ref 48, .ref 37, .int (z_M_heightOf_37_48 M (z_M_beside_37 M x2 x4))]) (M' := M) (P := True) 3 rfl trivial ?_
            refine WX.callV (ca := mi_M_heightOf) (n := 2) (d' := 2) (st := [.int (z_M_heightOf_37_48 M (z_M_beside_37 M x2 x4))]) (As := [.ref 48, .int x3]) (q := 37) rfl lk_7_178 ck_M_heightOf cv_M_heightOf rfl (by decide) rfl (Nat.le_of_ble_eq_true rfl) ⟨by decide, rfl, by decide⟩ (by intro w hw; simp only [List.mem_cons, List.not_mem_nil, or_false] at hw; rcases hw with rfl | rfl <;> rfl) (Nat.le_of_ble_eq_true rfl) ?_
            refine wx_M_heightOf_37_48 M x3 (b9 c1 c2 c3 c4 c5) ?_
            show WX mi_M_nextOf 4 Q 84 [some (.ref 37), some (.ref 48), some (.int x2), some (.int x3), some (.int x4), some (.int (z_M_beside_37 M x2 x4)), some (.int 1)] [.int (z_M_heightOf_37_48 M x3), .int (z_M_heightOf_37_48 M (z_M_beside_37 M x2 x4))] M
            refine WX.icmp_ge (off := 8) (tgt := 92) rfl rfl (fun c6 => ?_) (fun c6 => ?_)
            · refine WX.run (pc' := 6) (L' := [some (.ref 37), some (.ref 48), some (.int x2), some (.int x3), some (.int (x4 + 1)), some (.int (z_M_beside_37 M x2 x4)), some (.int 1)]) (st' := []) (M' := M) (P := True) 4 rfl trivial ?_
              refine WX.forget2 (L' := [some (.ref 37), some (.ref 48), some (.int x2), some (.int x3), some (.int (x4 + 1)), none, none]) ?_ ⟨Or.inr rfl, Or.inr rfl, Or.inr rfl, Or.inr rfl, Or.inr rfl, Or.inl rfl, Or.inl rfl, trivial⟩
              exact (h10 c1 c2 c3 c4 c5 c6)
            · refine WX.run (pc' := 6) (L' := [some (.ref 37), some (.ref 48), some (.int x2), some (.int (z_M_beside_37 M x2 x4)), some (.int (x4 + 1)), some (.int (z_M_beside_37 M x2 x4)), some (.int 1)]) (st' := []) (M' := M) (P := True) 5 rfl trivial ?_
              refine WX.forget2 (L' := [some (.ref 37), some (.ref 48), some (.int x2), some (.int (z_M_beside_37 M x2 x4)), some (.int (x4 + 1)), none, none]) ?_ ⟨Or.inr rfl, Or.inr rfl, Or.inr rfl, Or.inr rfl, Or.inr rfl, Or.inl rfl, Or.inl rfl, trivial⟩
              exact (h11 c1 c2 c3 c4 c5 c6)
theorem sg_M_puddles_37_48_0 {Q : Option Value → Mem → Prop} (M : Mem)
    (h1 : WX mi_M_puddles 5 Q 4 [some (.ref 37), some (.ref 48), some (.int 0), some (.int 0)] [] M) :
    WX mi_M_puddles 5 Q 0 [some (.ref 37), some (.ref 48), none, none] [] M := by
  refine WX.run (pc' := 4) (L' := [some (.ref 37), some (.ref 48), some (.int 0), some (.int 0)]) (st' := []) (M' := M) (P := True) 4 rfl trivial ?_
  exact h1
theorem sg_M_puddles_37_48_4 {Q : Option Value → Mem → Prop} (M : Mem) (x2 x3 : Int32)
    (h1 : 16 ≤ x3 → Q (some (.int x2)) M)
    (b2 : ¬ 16 ≤ x3 → ((z_M_isCell_37 M (rem x3 4) (x3 / 4)) = 0 ∨ (z_M_isCell_37 M (rem x3 4) (x3 / 4)) = 1))
    (h3 : ¬ 16 ≤ x3 → (z_M_isDry_37 M x3) = 0 → WX mi_M_puddles 5 Q 4 [some (.ref 37), some (.ref 48), some (.int (x2 ||| 0)), some (.int (x3 + 1))] [] M)
    (h4 : ¬ 16 ≤ x3 → ¬ (z_M_isDry_37 M x3) = 0 → ¬ (z_M_isDrain_37 M x3) = 0 → WX mi_M_puddles 5 Q 4 [some (.ref 37), some (.ref 48), some (.int (x2 ||| 0)), some (.int (x3 + 1))] [] M)
    (h5 : ¬ 16 ≤ x3 → ¬ (z_M_isDry_37 M x3) = 0 → (z_M_isDrain_37 M x3) = 0 → WX mi_M_nextOf 4 (fun rv M' => WX mi_M_puddles 5 Q 33 [some (.ref 37), some (.ref 48), some (.int x2), some (.int x3)] (rv.toList ++ [.int x2]) M') 0 [some (.ref 37), some (.ref 48), some (.int x3), none, none, none, none] [] M) :
    WX mi_M_puddles 5 Q 4 [some (.ref 37), some (.ref 48), some (.int x2), some (.int x3)] [] M := by
  refine WX.run (pc' := 7) (L' := [some (.ref 37), some (.ref 48), some (.int x2), some (.int x3)]) (st' := [.int 16, .int x3]) (M' := M) (P := True) 2 rfl trivial ?_
  refine WX.icmp_ge (off := 46) (tgt := 53) rfl rfl (fun c1 => ?_) (fun c1 => ?_)
  · refine WX.run (pc' := 54) (L' := [some (.ref 37), some (.ref 48), some (.int x2), some (.int x3)]) (st' := [.int x2]) (M' := M) (P := True) 1 rfl trivial ?_
    exact WX.iret rfl rfl (h1 c1)
  · refine WX.run (pc' := 13) (L' := [some (.ref 37), some (.ref 48), some (.int x2), some (.int x3)]) (st' := [.int x3, .ref 37, .int x2]) (M' := M) (P := True) 3 rfl trivial ?_
    refine WX.callV (ca := mi_M_isDry) (n := 1) (d' := 4) (st := [.int x2]) (As := [.int x3]) (q := 37) rfl lk_7_184 ck_M_isDry cv_M_isDry rfl (by decide) rfl (Nat.le_of_ble_eq_true rfl) ⟨by decide, rfl, by decide⟩ (by intro w hw; simp only [List.mem_cons, List.not_mem_nil, or_false] at hw; rcases hw with rfl <;> rfl) (Nat.le_of_ble_eq_true rfl) ?_
    refine wx_M_isDry_37 M x3 (b2 c1) ?_
    show WX mi_M_puddles 5 Q 16 [some (.ref 37), some (.ref 48), some (.int x2), some (.int x3)] [.int (z_M_isDry_37 M x3), .int x2] M
    refine WX.if_eq (off := 28) (tgt := 44) rfl rfl (fun c2 => ?_) (fun c2 => ?_)
    · refine WX.run (pc' := 4) (L' := [some (.ref 37), some (.ref 48), some (.int (x2 ||| 0)), some (.int (x3 + 1))]) (st' := []) (M' := M) (P := True) 5 rfl trivial ?_
      exact (h3 c1 c2)
    · refine WX.run (pc' := 21) (L' := [some (.ref 37), some (.ref 48), some (.int x2), some (.int x3)]) (st' := [.int x3, .ref 37, .int x2]) (M' := M) (P := True) 2 rfl trivial ?_
      refine WX.callV (ca := mi_M_isDrain) (n := 1) (d' := 1) (st := [.int x2]) (As := [.int x3]) (q := 37) rfl lk_7_138 ck_M_isDrain cv_M_isDrain rfl (by decide) rfl (Nat.le_of_ble_eq_true rfl) ⟨by decide, rfl, by decide⟩ (by intro w hw; simp only [List.mem_cons, List.not_mem_nil, or_false] at hw; rcases hw with rfl <;> rfl) (Nat.le_of_ble_eq_true rfl) ?_
      refine wx_M_isDrain_37 M x3 ?_
      show WX mi_M_puddles 5 Q 24 [some (.ref 37), some (.ref 48), some (.int x2), some (.int x3)] [.int (z_M_isDrain_37 M x3), .int x2] M
      refine WX.if_ne (off := 20) (tgt := 44) rfl rfl (fun c3 => ?_) (fun c3 => ?_)
      · refine WX.run (pc' := 4) (L' := [some (.ref 37), some (.ref 48), some (.int (x2 ||| 0)), some (.int (x3 + 1))]) (st' := []) (M' := M) (P := True) 5 rfl trivial ?_
        exact (h4 c1 c2 c3)
      · refine WX.run (pc' := 30) (L' := [some (.ref 37), some (.ref 48), some (.int x2), some (.int x3)]) (st' := [.int x3, .ref 48, .ref 37, .int x2]) (M' := M) (P := True) 3 rfl trivial ?_
        refine WX.callV (ca := mi_M_nextOf) (n := 2) (d' := 4) (st := [.int x2]) (As := [.ref 48, .int x3]) (q := 37) rfl lk_7_181 ck_M_nextOf cv_M_nextOf rfl (by decide) rfl (Nat.le_of_ble_eq_true rfl) ⟨by decide, rfl, by decide⟩ (by intro w hw; simp only [List.mem_cons, List.not_mem_nil, or_false] at hw; rcases hw with rfl | rfl <;> rfl) (Nat.le_of_ble_eq_true rfl) ?_
        exact (h5 c1 c2 c3)
theorem sg_M_puddles_37_48_33 {Q : Option Value → Mem → Prop} (M : Mem) (x2 x3 r s1 : Int32)
    (h1 : ¬ r = (-9) → WX mi_M_puddles 5 Q 4 [some (.ref 37), some (.ref 48), some (.int (s1 ||| 0)), some (.int (x3 + 1))] [] M)
    (h2 : r = (-9) → WX mi_M_puddles 5 Q 4 [some (.ref 37), some (.ref 48), some (.int (s1 ||| (shl 1 x3))), some (.int (x3 + 1))] [] M) :
    WX mi_M_puddles 5 Q 33 [some (.ref 37), some (.ref 48), some (.int x2), some (.int x3)] [.int r, .int s1] M := by
  refine WX.run (pc' := 35) (L' := [some (.ref 37), some (.ref 48), some (.int x2), some (.int x3)]) (st' := [.int (-9), .int r, .int s1]) (M' := M) (P := True) 1 rfl trivial ?_
  refine WX.icmp_ne (off := 9) (tgt := 44) rfl rfl (fun c1 => ?_) (fun c1 => ?_)
  · refine WX.run (pc' := 4) (L' := [some (.ref 37), some (.ref 48), some (.int (s1 ||| 0)), some (.int (x3 + 1))]) (st' := []) (M' := M) (P := True) 5 rfl trivial ?_
    exact (h1 c1)
  · refine WX.run (pc' := 4) (L' := [some (.ref 37), some (.ref 48), some (.int (s1 ||| (shl 1 x3))), some (.int (x3 + 1))]) (st' := []) (M' := M) (P := True) 8 rfl trivial ?_
    exact (h2 c1)
theorem sg_M_endOf_37_46_0 {Q : Option Value → Mem → Prop} (M : Mem) (x2 : Int32)
    (h1 : WX mi_M_nextOf 4 (fun rv M' => WX mi_M_endOf 5 Q 8 [some (.ref 37), some (.ref 46), some (.int x2), some (.int x2), none] (rv.toList ++ []) M') 0 [some (.ref 37), some (.ref 46), some (.int x2), none, none, none, none] [] M) :
    WX mi_M_endOf 5 Q 0 [some (.ref 37), some (.ref 46), some (.int x2), none, none] [] M := by
  refine WX.run (pc' := 5) (L' := [some (.ref 37), some (.ref 46), some (.int x2), some (.int x2), none]) (st' := [.int x2, .ref 46, .ref 37]) (M' := M) (P := True) 5 rfl trivial ?_
  refine WX.callV (ca := mi_M_nextOf) (n := 2) (d' := 4) (st := []) (As := [.ref 46, .int x2]) (q := 37) rfl lk_7_181 ck_M_nextOf cv_M_nextOf rfl (by decide) rfl (Nat.le_of_ble_eq_true rfl) ⟨by decide, rfl, by decide⟩ (by intro w hw; simp only [List.mem_cons, List.not_mem_nil, or_false] at hw; rcases hw with rfl | rfl <;> rfl) (Nat.le_of_ble_eq_true rfl) ?_
  exact h1
theorem sg_M_endOf_37_46_8 {Q : Option Value → Mem → Prop} (M : Mem) (x2 x3 r : Int32)
    (h1 : WX mi_M_endOf 5 Q 10 [some (.ref 37), some (.ref 46), some (.int x2), some (.int x3), some (.int r)] [] M) :
    WX mi_M_endOf 5 Q 8 [some (.ref 37), some (.ref 46), some (.int x2), some (.int x3), none] [.int r] M := by
  refine WX.run (pc' := 10) (L' := [some (.ref 37), some (.ref 46), some (.int x2), some (.int x3), some (.int r)]) (st' := []) (M' := M) (P := True) 1 rfl trivial ?_
  exact h1
theorem sg_M_endOf_37_46_10 {Q : Option Value → Mem → Prop} (M : Mem) (x2 x3 x4 : Int32)
    (h1 : x4 = (-9) → Q (some (.int x3)) M)
    (h2 : ¬ x4 = (-9) → WX mi_M_nextOf 4 (fun rv M' => WX mi_M_endOf 5 Q 26 [some (.ref 37), some (.ref 46), some (.int x2), some (.int x4), some (.int x4)] (rv.toList ++ []) M') 0 [some (.ref 37), some (.ref 46), some (.int x4), none, none, none, none] [] M) :
    WX mi_M_endOf 5 Q 10 [some (.ref 37), some (.ref 46), some (.int x2), some (.int x3), some (.int x4)] [] M := by
  refine WX.run (pc' := 14) (L' := [some (.ref 37), some (.ref 46), some (.int x2), some (.int x3), some (.int x4)]) (st' := [.int (-9), .int x4]) (M' := M) (P := True) 2 rfl trivial ?_
  refine WX.icmp_eq (off := 17) (tgt := 31) rfl rfl (fun c1 => ?_) (fun c1 => ?_)
  · refine WX.run (pc' := 32) (L' := [some (.ref 37), some (.ref 46), some (.int x2), some (.int x3), some (.int x4)]) (st' := [.int x3]) (M' := M) (P := True) 1 rfl trivial ?_
    exact WX.iret rfl rfl (h1 c1)
  · refine WX.run (pc' := 23) (L' := [some (.ref 37), some (.ref 46), some (.int x2), some (.int x4), some (.int x4)]) (st' := [.int x4, .ref 46, .ref 37]) (M' := M) (P := True) 5 rfl trivial ?_
    refine WX.callV (ca := mi_M_nextOf) (n := 2) (d' := 4) (st := []) (As := [.ref 46, .int x4]) (q := 37) rfl lk_7_181 ck_M_nextOf cv_M_nextOf rfl (by decide) rfl (Nat.le_of_ble_eq_true rfl) ⟨by decide, rfl, by decide⟩ (by intro w hw; simp only [List.mem_cons, List.not_mem_nil, or_false] at hw; rcases hw with rfl | rfl <;> rfl) (Nat.le_of_ble_eq_true rfl) ?_
    exact (h2 c1)
theorem sg_M_endOf_37_46_26 {Q : Option Value → Mem → Prop} (M : Mem) (x2 x3 x4 r : Int32)
    (h1 : WX mi_M_endOf 5 Q 10 [some (.ref 37), some (.ref 46), some (.int x2), some (.int x3), some (.int r)] [] M) :
    WX mi_M_endOf 5 Q 26 [some (.ref 37), some (.ref 46), some (.int x2), some (.int x3), some (.int x4)] [.int r] M := by
  refine WX.run (pc' := 10) (L' := [some (.ref 37), some (.ref 46), some (.int x2), some (.int x3), some (.int r)]) (st' := []) (M' := M) (P := True) 2 rfl trivial ?_
  exact h1
theorem sg_M_wayOf_37_0 {Q : Option Value → Mem → Prop} (M : Mem) (x1 : Int32)
    (h1 : WX mi_M_wayOf 5 Q 4 [some (.ref 37), some (.int x1), some (.int 0), some (.int x1)] [] M) :
    WX mi_M_wayOf 5 Q 0 [some (.ref 37), some (.int x1), none, none] [] M := by
  refine WX.run (pc' := 4) (L' := [some (.ref 37), some (.int x1), some (.int 0), some (.int x1)]) (st' := []) (M' := M) (P := True) 4 rfl trivial ?_
  exact h1
theorem sg_M_wayOf_37_4 {Q : Option Value → Mem → Prop} (M : Mem) (x1 x2 x3 : Int32)
    (h1 : x3 = (-9) → Q (some (.int x2)) M)
    (h2 : ¬ x3 = (-9) → WX mi_M_nextOf 4 (fun rv M' => WX mi_M_wayOf 5 Q 25 [some (.ref 37), some (.int x1), some (.int (x2 ||| (shl 1 x3))), some (.int x3)] (rv.toList ++ []) M') 0 [some (.ref 37), some (.ref 46), some (.int x3), none, none, none, none] [] M) :
    WX mi_M_wayOf 5 Q 4 [some (.ref 37), some (.int x1), some (.int x2), some (.int x3)] [] M := by
  refine WX.run (pc' := 7) (L' := [some (.ref 37), some (.int x1), some (.int x2), some (.int x3)]) (st' := [.int (-9), .int x3]) (M' := M) (P := True) 2 rfl trivial ?_
  refine WX.icmp_eq (off := 22) (tgt := 29) rfl rfl (fun c1 => ?_) (fun c1 => ?_)
  · refine WX.run (pc' := 30) (L' := [some (.ref 37), some (.int x1), some (.int x2), some (.int x3)]) (st' := [.int x2]) (M' := M) (P := True) 1 rfl trivial ?_
    exact WX.iret rfl rfl (h1 c1)
  · refine WX.run (pc' := 22) (L' := [some (.ref 37), some (.int x1), some (.int (x2 ||| (shl 1 x3))), some (.int x3)]) (st' := [.int x3, .ref 46, .ref 37]) (M' := M) (P := True) 10 rfl trivial ?_
    refine WX.callV (ca := mi_M_nextOf) (n := 2) (d' := 4) (st := []) (As := [.ref 46, .int x3]) (q := 37) rfl lk_7_181 ck_M_nextOf cv_M_nextOf rfl (by decide) rfl (Nat.le_of_ble_eq_true rfl) ⟨by decide, rfl, by decide⟩ (by intro w hw; simp only [List.mem_cons, List.not_mem_nil, or_false] at hw; rcases hw with rfl | rfl <;> rfl) (Nat.le_of_ble_eq_true rfl) ?_
    exact (h2 c1)
theorem sg_M_wayOf_37_25 {Q : Option Value → Mem → Prop} (M : Mem) (x1 x2 x3 r : Int32)
    (h1 : WX mi_M_wayOf 5 Q 4 [some (.ref 37), some (.int x1), some (.int x2), some (.int r)] [] M) :
    WX mi_M_wayOf 5 Q 25 [some (.ref 37), some (.int x1), some (.int x2), some (.int x3)] [.int r] M := by
  refine WX.run (pc' := 4) (L' := [some (.ref 37), some (.int x1), some (.int x2), some (.int r)]) (st' := []) (M' := M) (P := True) 2 rfl trivial ?_
  exact h1
theorem sg_M_findPlan_37_0 {Q : Option Value → Mem → Prop} (M : Mem)
    (h1 : WX mi_M_findPlan 5 Q 2 [some (.ref 37), some (.int 0), none, none, none, none] [] M) :
    WX mi_M_findPlan 5 Q 0 [some (.ref 37), none, none, none, none, none] [] M := by
  refine WX.run (pc' := 2) (L' := [some (.ref 37), some (.int 0), none, none, none, none]) (st' := []) (M' := M) (P := True) 2 rfl trivial ?_
  exact h1
theorem sg_M_findPlan_37_2 {Q : Option Value → Mem → Prop} (M : Mem) (x1 : Int32)
    (h1 : 16 ≤ x1 → WX mi_M_findPlan 5 Q 39 [some (.ref 37), some (.int 0), none, none, none, none] [] M)
    (b2 : ¬ 16 ≤ x1 → vp_in (16 + x1) 1257)
    (b3 : ¬ 16 ≤ x1 → vp_in x1 16)
    (h4 : ¬ 16 ≤ x1 → WX mi_M_findPlan 5 Q 2 [some (.ref 37), some (.int (x1 + 1)), none, none, none, none] [] (wr (wr M 49 x1.toNatClampNeg (M.1 46 (16 + x1).toNatClampNeg)) 53 x1.toNatClampNeg (-9))) :
    WX mi_M_findPlan 5 Q 2 [some (.ref 37), some (.int x1), none, none, none, none] [] M := by
  refine WX.run (pc' := 5) (L' := [some (.ref 37), some (.int x1), none, none, none, none]) (st' := [.int 16, .int x1]) (M' := M) (P := True) 2 rfl trivial ?_
  refine WX.icmp_ge (off := 32) (tgt := 37) rfl rfl (fun c1 => ?_) (fun c1 => ?_)
  · refine WX.run (pc' := 39) (L' := [some (.ref 37), some (.int 0), none, none, none, none]) (st' := []) (M' := M) (P := True) 2 rfl trivial ?_
    exact (h1 c1)
  · refine WX.run (pc' := 2) (L' := [some (.ref 37), some (.int (x1 + 1)), none, none, none, none]) (st' := []) (M' := (wr (wr M 49 x1.toNatClampNeg (M.1 46 (16 + x1).toNatClampNeg)) 53 x1.toNatClampNeg (-9))) (P := (((True ∧ vp_in (16 + x1) 1257) ∧ vp_in x1 16) ∧ vp_in x1 16)) 17 rfl ⟨⟨⟨trivial, (b2 c1)⟩, (b3 c1)⟩, (b3 c1)⟩ ?_
    exact (h4 c1)
theorem sg_M_findPlan_37_39 {Q : Option Value → Mem → Prop} (M : Mem) (x1 : Int32)
    (h1 : 4 ≤ x1 → WX mi_M_crosses 4 (fun rv M' => WX mi_M_findPlan 5 Q 81 [some (.ref 37), some (.int x1), none, none, none, none] (rv.toList ++ []) M') 0 [some (.ref 37), some (.ref 46), some (.int 16), none, none, none] [] (wr M 37 26 (-9)))
    (b2 : ¬ 4 ≤ x1 → vp_in (32 + x1) 1257)
    (b3 : ¬ 4 ≤ x1 → vp_in x1 4)
    (h4 : ¬ 4 ≤ x1 → WX mi_M_findPlan 5 Q 39 [some (.ref 37), some (.int (x1 + 1)), none, none, none, none] [] (wr M 50 x1.toNatClampNeg (M.1 46 (32 + x1).toNatClampNeg))) :
    WX mi_M_findPlan 5 Q 39 [some (.ref 37), some (.int x1), none, none, none, none] [] M := by
  refine WX.run (pc' := 41) (L' := [some (.ref 37), some (.int x1), none, none, none, none]) (st' := [.int 4, .int x1]) (M' := M) (P := True) 2 rfl trivial ?_
  refine WX.icmp_ge (off := 24) (tgt := 65) rfl rfl (fun c1 => ?_) (fun c1 => ?_)
  · refine WX.run (pc' := 78) (L' := [some (.ref 37), some (.int x1), none, none, none, none]) (st' := [.int 16, .ref 46, .ref 37]) (M' := (wr M 37 26 (-9))) (P := True) 7 rfl trivial ?_
    refine WX.callV (ca := mi_M_crosses) (n := 2) (d' := 4) (st := []) (As := [.ref 46, .int 16]) (q := 37) rfl lk_7_191 ck_M_crosses cv_M_crosses rfl (by decide) rfl (Nat.le_of_ble_eq_true rfl) ⟨by decide, rfl, by decide⟩ (by intro w hw; simp only [List.mem_cons, List.not_mem_nil, or_false] at hw; rcases hw with rfl | rfl <;> rfl) (Nat.le_of_ble_eq_true rfl) ?_
    exact (h1 c1)
  · refine WX.run (pc' := 39) (L' := [some (.ref 37), some (.int (x1 + 1)), none, none, none, none]) (st' := []) (M' := (wr M 50 x1.toNatClampNeg (M.1 46 (32 + x1).toNatClampNeg))) (P := ((True ∧ vp_in (32 + x1) 1257) ∧ vp_in x1 4)) 12 rfl ⟨⟨trivial, (b2 c1)⟩, (b3 c1)⟩ ?_
    exact (h4 c1)
theorem sg_M_findPlan_37_81 {Q : Option Value → Mem → Prop} (M : Mem) (x1 r : Int32)
    (h1 : r ≤ 0 → WX mi_M_findPlan 5 Q 92 [some (.ref 37), some (.int 0), some (.int 0), none, none, none] [] M)
    (h2 : ¬ r ≤ 0 → WX mi_M_findPlan 5 Q 92 [some (.ref 37), some (.int (-1)), some (.int 0), none, none, none] [] M) :
    WX mi_M_findPlan 5 Q 81 [some (.ref 37), some (.int x1), none, none, none, none] [.int r] M := by
  refine WX.if_le (off := 7) (tgt := 88) rfl rfl (fun c1 => ?_) (fun c1 => ?_)
  · refine WX.run (pc' := 92) (L' := [some (.ref 37), some (.int 0), some (.int 0), none, none, none]) (st' := []) (M' := M) (P := True) 4 rfl trivial ?_
    exact (h1 c1)
  · refine WX.run (pc' := 92) (L' := [some (.ref 37), some (.int (-1)), some (.int 0), none, none, none]) (st' := []) (M' := M) (P := True) 5 rfl trivial ?_
    exact (h2 c1)
theorem sg_M_findPlan_37_92 {Q : Option Value → Mem → Prop} (M : Mem) (x1 x2 : Int32)
    (h1 : x1 < 0 → Q none M)
    (h2 : ¬ x1 < 0 → WX mi_M_freeBy 4 (fun rv M' => WX mi_M_findPlan 5 Q 105 [some (.ref 37), some (.int x1), some (.int x2), none, none, none] (rv.toList ++ []) M') 0 [some (.ref 37), some (.ref 49), some (.int 0), none, none] [] M) :
    WX mi_M_findPlan 5 Q 92 [some (.ref 37), some (.int x1), some (.int x2), none, none, none] [] M := by
  refine WX.run (pc' := 93) (L' := [some (.ref 37), some (.int x1), some (.int x2), none, none, none]) (st' := [.int x1]) (M' := M) (P := True) 1 rfl trivial ?_
  refine WX.if_lt (off := 330) (tgt := 423) rfl rfl (fun c1 => ?_) (fun c1 => ?_)
  · exact WX.vret rfl rfl (h1 c1)
  · refine WX.run (pc' := 102) (L' := [some (.ref 37), some (.int x1), some (.int x2), none, none, none]) (st' := [.int 0, .ref 49, .ref 37]) (M' := M) (P := True) 4 rfl trivial ?_
    refine WX.callV (ca := mi_M_freeBy) (n := 2) (d' := 4) (st := []) (As := [.ref 49, .int 0]) (q := 37) rfl lk_7_154 ck_M_freeBy cv_M_freeBy rfl (by decide) rfl (Nat.le_of_ble_eq_true rfl) ⟨by decide, rfl, by decide⟩ (by intro w hw; simp only [List.mem_cons, List.not_mem_nil, or_false] at hw; rcases hw with rfl | rfl <;> rfl) (Nat.le_of_ble_eq_true rfl) ?_
    exact (h2 c1)
theorem sg_M_findPlan_37_105 {Q : Option Value → Mem → Prop} (M : Mem) (x1 x2 r : Int32)
    (h1 : ¬ r = 0 → r = 0 → WX mi_M_findPlan 5 Q 249 [some (.ref 37), some (.int x1), some (.int x2), some (.int r), some (.int 0), some (.int 0)] [] M)
    (h2 : ¬ r = 0 → ¬ r = 0 → (M.1 37 26) = (-9) → WX mi_M_lowest 1 (fun rv M' => WX mi_M_findPlan 5 Q 243 [some (.ref 37), some (.int x1), some (.int x2), some (.int r), some (.int 1), none] (rv.toList ++ []) M') 0 [some (.ref 37), some (.int r), none] [] M)
    (h3 : ¬ r = 0 → ¬ r = 0 → ¬ (M.1 37 26) = (-9) → (M.1 37 26) ≤ (x1 + 1) → WX mi_M_findPlan 5 Q 249 [some (.ref 37), some (.int x1), some (.int x2), some (.int r), some (.int 0), some (.int 0)] [] M)
    (h4 : ¬ r = 0 → ¬ r = 0 → ¬ (M.1 37 26) = (-9) → ¬ (M.1 37 26) ≤ (x1 + 1) → WX mi_M_lowest 1 (fun rv M' => WX mi_M_findPlan 5 Q 243 [some (.ref 37), some (.int x1), some (.int x2), some (.int r), some (.int 1), none] (rv.toList ++ []) M') 0 [some (.ref 37), some (.int r), none] [] M)
    (h5 : r = 0 → (M.1 37 26) = (-9) → WX mi_M_crosses 4 (fun rv M' => WX mi_M_findPlan 5 Q 136 [some (.ref 37), some (.int x1), some (.int x2), some (.int r), none, none] (rv.toList ++ []) M') 0 [some (.ref 37), some (.ref 49), some (.int 0), none, none, none] [] M)
    (h6 : r = 0 → ¬ (M.1 37 26) = (-9) → (M.1 37 26) ≤ x1 → r = 0 → WX mi_M_findPlan 5 Q 249 [some (.ref 37), some (.int x1), some (.int x2), some (.int r), some (.int 0), some (.int 0)] [] M)
    (h7 : r = 0 → ¬ (M.1 37 26) = (-9) → (M.1 37 26) ≤ x1 → ¬ r = 0 → (M.1 37 26) = (-9) → WX mi_M_lowest 1 (fun rv M' => WX mi_M_findPlan 5 Q 243 [some (.ref 37), some (.int x1), some (.int x2), some (.int r), some (.int 1), none] (rv.toList ++ []) M') 0 [some (.ref 37), some (.int r), none] [] M)
    (h8 : r = 0 → ¬ (M.1 37 26) = (-9) → (M.1 37 26) ≤ x1 → ¬ r = 0 → ¬ (M.1 37 26) = (-9) → (M.1 37 26) ≤ (x1 + 1) → WX mi_M_findPlan 5 Q 249 [some (.ref 37), some (.int x1), some (.int x2), some (.int r), some (.int 0), some (.int 0)] [] M)
    (h9 : r = 0 → ¬ (M.1 37 26) = (-9) → (M.1 37 26) ≤ x1 → ¬ r = 0 → ¬ (M.1 37 26) = (-9) → ¬ (M.1 37 26) ≤ (x1 + 1) → WX mi_M_lowest 1 (fun rv M' => WX mi_M_findPlan 5 Q 243 [some (.ref 37), some (.int x1), some (.int x2), some (.int r), some (.int 1), none] (rv.toList ++ []) M') 0 [some (.ref 37), some (.int r), none] [] M)
    (h10 : r = 0 → ¬ (M.1 37 26) = (-9) → ¬ (M.1 37 26) ≤ x1 → WX mi_M_crosses 4 (fun rv M' => WX mi_M_findPlan 5 Q 136 [some (.ref 37), some (.int x1), some (.int x2), some (.int r), none, none] (rv.toList ++ []) M') 0 [some (.ref 37), some (.ref 49), some (.int 0), none, none, none] [] M) :
    WX mi_M_findPlan 5 Q 105 [some (.ref 37), some (.int x1), some (.int x2), none, none, none] [.int r] M := by
  refine WX.run (pc' := 107) (L' := [some (.ref 37), some (.int x1), some (.int x2), some (.int r), none, none]) (st' := [.int r]) (M' := M) (P := True) 2 rfl trivial ?_
  refine WX.if_ne (off := 96) (tgt := 203) rfl rfl (fun c1 => ?_) (fun c1 => ?_)
  · refine WX.run (pc' := 204) (L' := [some (.ref 37), some (.int x1), some (.int x2), some (.int r), none, none]) (st' := [.int r]) (M' := M) (P := True) 1 rfl trivial ?_
    refine WX.if_eq (off := 26) (tgt := 230) rfl rfl (fun c2 => ?_) (fun c2 => ?_)
    · refine WX.run (pc' := 235) (L' := [some (.ref 37), some (.int x1), some (.int x2), some (.int r), some (.int 0), none]) (st' := [.int 0]) (M' := M) (P := True) 3 rfl trivial ?_
      refine WX.if_eq (off := 11) (tgt := 246) rfl rfl (fun _ => ?_) (fun c => absurd (by decide) c)
      refine WX.run (pc' := 249) (L' := [some (.ref 37), some (.int x1), some (.int x2), some (.int r), some (.int 0), some (.int 0)]) (st' := []) (M' := M) (P := True) 2 rfl trivial ?_
      exact (h1 c1 c2)
    · refine WX.run (pc' := 213) (L' := [some (.ref 37), some (.int x1), some (.int x2), some (.int r), none, none]) (st' := [.int (-9), .int (M.1 37 26)]) (M' := M) (P := True) 3 rfl trivial ?_
      refine WX.icmp_eq (off := 13) (tgt := 226) rfl rfl (fun c3 => ?_) (fun c3 => ?_)
      · refine WX.run (pc' := 235) (L' := [some (.ref 37), some (.int x1), some (.int x2), some (.int r), some (.int 1), none]) (st' := [.int 1]) (M' := M) (P := True) 4 rfl trivial ?_
        refine WX.if_eq (off := 11) (tgt := 246) rfl rfl (fun c => absurd c (by decide)) (fun _ => ?_)
        refine WX.run (pc' := 240) (L' := [some (.ref 37), some (.int x1), some (.int x2), some (.int r), some (.int 1), none]) (st' := [.int r, .ref 37]) (M' := M) (P := True) 2 rfl trivial ?_
        refine WX.callV (ca := mi_M_lowest) (n := 1) (d' := 1) (st := []) (As := [.int r]) (q := 37) rfl lk_7_212 ck_M_lowest cv_M_lowest rfl (by decide) rfl (Nat.le_of_ble_eq_true rfl) ⟨by decide, rfl, by decide⟩ (by intro w hw; simp only [List.mem_cons, List.not_mem_nil, or_false] at hw; rcases hw with rfl <;> rfl) (Nat.le_of_ble_eq_true rfl) ?_
        exact (h2 c1 c2 c3)
      · refine WX.run (pc' := 223) (L' := [some (.ref 37), some (.int x1), some (.int x2), some (.int r), none, none]) (st' := [.int (M.1 37 26), .int (x1 + 1)]) (M' := M) (P := True) 5 rfl trivial ?_
        refine WX.icmp_ge (off := 7) (tgt := 230) rfl rfl (fun c4 => ?_) (fun c4 => ?_)
        · refine WX.run (pc' := 235) (L' := [some (.ref 37), some (.int x1), some (.int x2), some (.int r), some (.int 0), none]) (st' := [.int 0]) (M' := M) (P := True) 3 rfl trivial ?_
          refine WX.if_eq (off := 11) (tgt := 246) rfl rfl (fun _ => ?_) (fun c => absurd (by decide) c)
          refine WX.run (pc' := 249) (L' := [some (.ref 37), some (.int x1), some (.int x2), some (.int r), some (.int 0), some (.int 0)]) (st' := []) (M' := M) (P := True) 2 rfl trivial ?_
          exact (h3 c1 c2 c3 c4)
        · refine WX.run (pc' := 235) (L' := [some (.ref 37), some (.int x1), some (.int x2), some (.int r), some (.int 1), none]) (st' := [.int 1]) (M' := M) (P := True) 4 rfl trivial ?_
          refine WX.if_eq (off := 11) (tgt := 246) rfl rfl (fun c => absurd c (by decide)) (fun _ => ?_)
          refine WX.run (pc' := 240) (L' := [some (.ref 37), some (.int x1), some (.int x2), some (.int r), some (.int 1), none]) (st' := [.int r, .ref 37]) (M' := M) (P := True) 2 rfl trivial ?_
          refine WX.callV (ca := mi_M_lowest) (n := 1) (d' := 1) (st := []) (As := [.int r]) (q := 37) rfl lk_7_212 ck_M_lowest cv_M_lowest rfl (by decide) rfl (Nat.le_of_ble_eq_true rfl) ⟨by decide, rfl, by decide⟩ (by intro w hw; simp only [List.mem_cons, List.not_mem_nil, or_false] at hw; rcases hw with rfl <;> rfl) (Nat.le_of_ble_eq_true rfl) ?_
          exact (h4 c1 c2 c3 c4)
  · refine WX.run (pc' := 116) (L' := [some (.ref 37), some (.int x1), some (.int x2), some (.int r), none, none]) (st' := [.int (-9), .int (M.1 37 26)]) (M' := M) (P := True) 3 rfl trivial ?_
    refine WX.icmp_eq (off := 11) (tgt := 127) rfl rfl (fun c5 => ?_) (fun c5 => ?_)
    · refine WX.run (pc' := 133) (L' := [some (.ref 37), some (.int x1), some (.int x2), some (.int r), none, none]) (st' := [.int 0, .ref 49, .ref 37]) (M' := M) (P := True) 4 rfl trivial ?_
      refine WX.callV (ca := mi_M_crosses) (n := 2) (d' := 4) (st := []) (As := [.ref 49, .int 0]) (q := 37) rfl lk_7_191 ck_M_crosses cv_M_crosses rfl (by decide) rfl (Nat.le_of_ble_eq_true rfl) ⟨by decide, rfl, by decide⟩ (by intro w hw; simp only [List.mem_cons, List.not_mem_nil, or_false] at hw; rcases hw with rfl | rfl <;> rfl) (Nat.le_of_ble_eq_true rfl) ?_
      exact (h5 c1 c5)
    · refine WX.run (pc' := 124) (L' := [some (.ref 37), some (.int x1), some (.int x2), some (.int r), none, none]) (st' := [.int (M.1 37 26), .int x1]) (M' := M) (P := True) 3 rfl trivial ?_
      refine WX.icmp_ge (off := 79) (tgt := 203) rfl rfl (fun c6 => ?_) (fun c6 => ?_)
      · refine WX.run (pc' := 204) (L' := [some (.ref 37), some (.int x1), some (.int x2), some (.int r), none, none]) (st' := [.int r]) (M' := M) (P := True) 1 rfl trivial ?_
        refine WX.if_eq (off := 26) (tgt := 230) rfl rfl (fun c7 => ?_) (fun c7 => ?_)
        · refine WX.run (pc' := 235) (L' := [some (.ref 37), some (.int x1), some (.int x2), some (.int r), some (.int 0), none]) (st' := [.int 0]) (M' := M) (P := True) 3 rfl trivial ?_
          refine WX.if_eq (off := 11) (tgt := 246) rfl rfl (fun _ => ?_) (fun c => absurd (by decide) c)
          refine WX.run (pc' := 249) (L' := [some (.ref 37), some (.int x1), some (.int x2), some (.int r), some (.int 0), some (.int 0)]) (st' := []) (M' := M) (P := True) 2 rfl trivial ?_
          exact (h6 c1 c5 c6 c7)
        · refine WX.run (pc' := 213) (L' := [some (.ref 37), some (.int x1), some (.int x2), some (.int r), none, none]) (st' := [.int (-9), .int (M.1 37 26)]) (M' := M) (P := True) 3 rfl trivial ?_
          refine WX.icmp_eq (off := 13) (tgt := 226) rfl rfl (fun c8 => ?_) (fun c8 => ?_)
          · refine WX.run (pc' := 235) (L' := [some (.ref 37), some (.int x1), some (.int x2), some (.int r), some (.int 1), none]) (st' := [.int 1]) (M' := M) (P := True) 4 rfl trivial ?_
            refine WX.if_eq (off := 11) (tgt := 246) rfl rfl (fun c => absurd c (by decide)) (fun _ => ?_)
            refine WX.run (pc' := 240) (L' := [some (.ref 37), some (.int x1), some (.int x2), some (.int r), some (.int 1), none]) (st' := [.int r, .ref 37]) (M' := M) (P := True) 2 rfl trivial ?_
            refine WX.callV (ca := mi_M_lowest) (n := 1) (d' := 1) (st := []) (As := [.int r]) (q := 37) rfl lk_7_212 ck_M_lowest cv_M_lowest rfl (by decide) rfl (Nat.le_of_ble_eq_true rfl) ⟨by decide, rfl, by decide⟩ (by intro w hw; simp only [List.mem_cons, List.not_mem_nil, or_false] at hw; rcases hw with rfl <;> rfl) (Nat.le_of_ble_eq_true rfl) ?_
            exact (h7 c1 c5 c6 c7 c8)
          · refine WX.run (pc' := 223) (L' := [some (.ref 37), some (.int x1), some (.int x2), some (.int r), none, none]) (st' := [.int (M.1 37 26), .int (x1 + 1)]) (M' := M) (P := True) 5 rfl trivial ?_
            refine WX.icmp_ge (off := 7) (tgt := 230) rfl rfl (fun c9 => ?_) (fun c9 => ?_)
            · refine WX.run (pc' := 235) (L' := [some (.ref 37), some (.int x1), some (.int x2), some (.int r), some (.int 0), none]) (st' := [.int 0]) (M' := M) (P := True) 3 rfl trivial ?_
              refine WX.if_eq (off := 11) (tgt := 246) rfl rfl (fun _ => ?_) (fun c => absurd (by decide) c)
              refine WX.run (pc' := 249) (L' := [some (.ref 37), some (.int x1), some (.int x2), some (.int r), some (.int 0), some (.int 0)]) (st' := []) (M' := M) (P := True) 2 rfl trivial ?_
              exact (h8 c1 c5 c6 c7 c8 c9)
            · refine WX.run (pc' := 235) (L' := [some (.ref 37), some (.int x1), some (.int x2), some (.int r), some (.int 1), none]) (st' := [.int 1]) (M' := M) (P := True) 4 rfl trivial ?_
              refine WX.if_eq (off := 11) (tgt := 246) rfl rfl (fun c => absurd c (by decide)) (fun _ => ?_)
              refine WX.run (pc' := 240) (L' := [some (.ref 37), some (.int x1), some (.int x2), some (.int r), some (.int 1), none]) (st' := [.int r, .ref 37]) (M' := M) (P := True) 2 rfl trivial ?_
              refine WX.callV (ca := mi_M_lowest) (n := 1) (d' := 1) (st := []) (As := [.int r]) (q := 37) rfl lk_7_212 ck_M_lowest cv_M_lowest rfl (by decide) rfl (Nat.le_of_ble_eq_true rfl) ⟨by decide, rfl, by decide⟩ (by intro w hw; simp only [List.mem_cons, List.not_mem_nil, or_false] at hw; rcases hw with rfl <;> rfl) (Nat.le_of_ble_eq_true rfl) ?_
              exact (h9 c1 c5 c6 c7 c8 c9)
      · refine WX.run (pc' := 133) (L' := [some (.ref 37), some (.int x1), some (.int x2), some (.int r), none, none]) (st' := [.int 0, .ref 49, .ref 37]) (M' := M) (P := True) 4 rfl trivial ?_
        refine WX.callV (ca := mi_M_crosses) (n := 2) (d' := 4) (st := []) (As := [.ref 49, .int 0]) (q := 37) rfl lk_7_191 ck_M_crosses cv_M_crosses rfl (by decide) rfl (Nat.le_of_ble_eq_true rfl) ⟨by decide, rfl, by decide⟩ (by intro w hw; simp only [List.mem_cons, List.not_mem_nil, or_false] at hw; rcases hw with rfl | rfl <;> rfl) (Nat.le_of_ble_eq_true rfl) ?_
        exact (h10 c1 c5 c6)
theorem sg_M_findPlan_37_249 {Q : Option Value → Mem → Prop} (M : Mem) (x1 x2 x3 x4 x5 : Int32)
    (h1 : x4 = 0 → x4 = 0 → (x1 + (-1)) < 0 → WX mi_M_findPlan 5 Q 92 [some (.ref 37), some (.int (x1 + (-1))), some (.int x2), none, none, none] [] M)
    (b2 : x4 = 0 → x4 = 0 → ¬ (x1 + (-1)) < 0 → vp_in (x1 + (-1)) 17)
    (h3 : x4 = 0 → x4 = 0 → ¬ (x1 + (-1)) < 0 → WX mi_M_cellsOf 3 (fun rv M' => WX mi_M_findPlan 5 Q 391 [some (.ref 37), some (.int (x1 + (-1))), some (.int x2), some (.int x3), some (.int x4), some (.int x5)] (rv.toList ++ [.int 0, .ref 49]) M') 0 [some (.ref 37), some (.int (M.1 52 (x1 + (-1)).toNatClampNeg)), some (.int (M.1 51 (x1 + (-1)).toNatClampNeg)), none, none, none, none] [] M)
    (h4 : x4 = 0 → ¬ x4 = 0 → 4 ≤ x2 → (x1 + (-1)) < 0 → WX mi_M_findPlan 5 Q 92 [some (.ref 37), some (.int (x1 + (-1))), some (.int x2), none, none, none] [] M)
    (b5 : x4 = 0 → ¬ x4 = 0 → 4 ≤ x2 → ¬ (x1 + (-1)) < 0 → vp_in (x1 + (-1)) 17)
    (h6 : x4 = 0 → ¬ x4 = 0 → 4 ≤ x2 → ¬ (x1 + (-1)) < 0 → WX mi_M_cellsOf 3 (fun rv M' => WX mi_M_findPlan 5 Q 391 [some (.ref 37), some (.int (x1 + (-1))), some (.int x2), some (.int x3), some (.int x4), some (.int x5)] (rv.toList ++ [.int 0, .ref 49]) M') 0 [some (.ref 37), some (.int (M.1 52 (x1 + (-1)).toNatClampNeg)), some (.int (M.1 51 (x1 + (-1)).toNatClampNeg)), none, none, none, none] [] M)
    (h7 : x4 = 0 → ¬ x4 = 0 → ¬ 4 ≤ x2 → WX mi_M_cellsOf 3 (fun rv M' => WX mi_M_findPlan 5 Q 320 [some (.ref 37), some (.int x1), some (.int x2), some (.int x3), some (.int x4), some (.int x5)] (rv.toList ++ [.int 0, .ref 49]) M') 0 [some (.ref 37), some (.int x2), some (.int x5), none, none, none, none] [] M)
    (h8 : ¬ x4 = 0 → 4 ≤ x2 → x4 = 0 → (x1 + (-1)) < 0 → WX mi_M_findPlan 5 Q 92 [some (.ref 37), some (.int (x1 + (-1))), some (.int x2), none, none, none] [] M)
    (b9 : ¬ x4 = 0 → 4 ≤ x2 → x4 = 0 → ¬ (x1 + (-1)) < 0 → vp_in (x1 + (-1)) 17)
    (h10 : ¬ x4 = 0 → 4 ≤ x2 → x4 = 0 → ¬ (x1 + (-1)) < 0 → WX mi_M_cellsOf 3 (fun rv M' => WX mi_M_findPlan 5 Q 391 [some (.ref 37), some (.int (x1 + (-1))), some (.int x2), some (.int x3), some (.int x4), some (.int x5)] (rv.toList ++ [.int 0, .ref 49]) M') 0 [some (.ref 37), some (.int (M.1 52 (x1 + (-1)).toNatClampNeg)), some (.int (M.1 51 (x1 + (-1)).toNatClampNeg)), none, none, none, none] [] M)
    (h11 : ¬ x4 = 0 → 4 ≤ x2 → ¬ x4 = 0 → 4 ≤ x2 → (x1 + (-1)) < 0 → WX mi_M_findPlan 5 Q 92 [some (.ref 37), some (.int (x1 + (-1))), some (.int x2), none, none, none] [] M)
    (b12 : ¬ x4 = 0 → 4 ≤ x2 → ¬ x4 = 0 → 4 ≤ x2 → ¬ (x1 + (-1)) < 0 → vp_in (x1 + (-1)) 17)
    (h13 : ¬ x4 = 0 → 4 ≤ x2 → ¬ x4 = 0 → 4 ≤ x2 → ¬ (x1 + (-1)) < 0 → WX mi_M_cellsOf 3 (fun rv M' => WX mi_M_findPlan 5 Q 391 [some (.ref 37), some (.int (x1 + (-1))), some (.int x2), some (.int x3), some (.int x4), some (.int x5)] (rv.toList ++ [.int 0, .ref 49]) M') 0 [some (.ref 37), some (.int (M.1 52 (x1 + (-1)).toNatClampNeg)), some (.int (M.1 51 (x1 + (-1)).toNatClampNeg)), none, none, none, none] [] M)
    (h14 : ¬ x4 = 0 → 4 ≤ x2 → ¬ x4 = 0 → ¬ 4 ≤ x2 → WX mi_M_cellsOf 3 (fun rv M' => WX mi_M_findPlan 5 Q 320 [some (.ref 37), some (.int x1), some (.int x2), some (.int x3), some (.int x4), some (.int x5)] (rv.toList ++ [.int 0, .ref 49]) M') 0 [some (.ref 37), some (.int x2), some (.int x5), none, none, none, none] [] M)
    (b15 : ¬ x4 = 0 → ¬ 4 ≤ x2 → vp_in x2 4)
    (h16 : ¬ x4 = 0 → ¬ 4 ≤ x2 → (M.1 50 x2.toNatClampNeg) = 0 → WX mi_M_findPlan 5 Q 249 [some (.ref 37), some (.int x1), some (.int (x2 + 1)), some (.int x3), some (.int x4), some (.int x5)] [] M)
    (h17 : ¬ x4 = 0 → ¬ 4 ≤ x2 → ¬ (M.1 50 x2.toNatClampNeg) = 0 → WX mi_M_cellsOf 3 (fun rv M' => WX mi_M_findPlan 5 Q 275 [some (.ref 37), some (.int x1), some (.int x2), some (.int x3), some (.int x4), some (.int x5)] (rv.toList ++ []) M') 0 [some (.ref 37), some (.int x2), some (.int x5), none, none, none, none] [] M) :
    WX mi_M_findPlan 5 Q 249 [some (.ref 37), some (.int x1), some (.int x2), some (.int x3), some (.int x4), some (.int x5)] [] M := by
  refine WX.run (pc' := 251) (L' := [some (.ref 37), some (.int x1), some (.int x2), some (.int x3), some (.int x4), some (.int x5)]) (st' := [.int x4]) (M' := M) (P := True) 1 rfl trivial ?_
  refine WX.if_eq (off := 47) (tgt := 298) rfl rfl (fun c1 => ?_) (fun c1 => ?_)
  · refine WX.run (pc' := 300) (L' := [some (.ref 37), some (.int x1), some (.int x2), some (.int x3), some (.int x4), some (.int x5)]) (st' := [.int x4]) (M' := M) (P := True) 1 rfl trivial ?_
    refine WX.if_eq (off := 63) (tgt := 363) rfl rfl (fun c2 => ?_) (fun c2 => ?_)
    · refine WX.run (pc' := 367) (L' := [some (.ref 37), some (.int (x1 + (-1))), some (.int x2), some (.int x3), some (.int x4), some (.int x5)]) (st' := [.int (x1 + (-1))]) (M' := M) (P := True) 2 rfl trivial ?_
      refine WX.if_lt (off := 53) (tgt := 420) rfl rfl (fun c3 => ?_) (fun c3 => ?_)
      · refine WX.run (pc' := 92) (L' := [some (.ref 37), some (.int (x1 + (-1))), some (.int x2), some (.int x3), some (.int x4), some (.int x5)]) (st' := []) (M' := M) (P := True) 1 rfl trivial ?_
        refine WX.forget2 (L' := [some (.ref 37), some (.int (x1 + (-1))), some (.int x2), none, none, none]) ?_ ⟨Or.inr rfl, Or.inr rfl, Or.inr rfl, Or.inl rfl, Or.inl rfl, Or.inl rfl, trivial⟩
        exact (h1 c1 c2 c3)
      · refine WX.run (pc' := 388) (L' := [some (.ref 37), some (.int (x1 + (-1))), some (.int x2), some (.int x3), some (.int x4), some (.int x5)]) (st' := [.int (M.1 51 (x1 + (-1)).toNatClampNeg), .int (M.1 52 (x1 + (-1)).toNatClampNeg), .ref 37, .int 0, .ref 49]) (M' := M) (P := ((True ∧ vp_in (x1 + (-1)) 17) ∧ vp_in (x1 + (-1)) 17)) 12 rfl ⟨⟨trivial, (b2 c1 c2 c3)⟩, (b2 c1 c2 c3)⟩ ?_
        refine WX.callV (ca := mi_M_cellsOf) (n := 2) (d' := 3) (st := [.int 0, .ref 49]) (As := [.int (M.1 52 (x1 + (-1)).toNatClampNeg), .int (M.1 51 (x1 + (-1)).toNatClampNeg)]) (q := 37) rfl lk_7_151 ck_M_cellsOf cv_M_cellsOf rfl (by decide) rfl (Nat.le_of_ble_eq_true rfl) ⟨by decide, rfl, by decide⟩ (by intro w hw; simp only [List.mem_cons, List.not_mem_nil, or_false] at hw; rcases hw with rfl | rfl <;> rfl) (Nat.le_of_ble_eq_true rfl) ?_
        exact (h3 c1 c2 c3)
    · refine WX.run (pc' := 305) (L' := [some (.ref 37), some (.int x1), some (.int x2), some (.int x3), some (.int x4), some (.int x5)]) (st' := [.int 4, .int x2]) (M' := M) (P := True) 2 rfl trivial ?_
      refine WX.icmp_ge (off := 58) (tgt := 363) rfl rfl (fun c4 => ?_) (fun c4 => ?_)
      · refine WX.run (pc' := 367) (L' := [some (.ref 37), some (.int (x1 + (-1))), some (.int x2), some (.int x3), some (.int x4), some (.int x5)]) (st' := [.int (x1 + (-1))]) (M' := M) (P := True) 2 rfl trivial ?_
        refine WX.if_lt (off := 53) (tgt := 420) rfl rfl (fun c5 => ?_) (fun c5 => ?_)
        · refine WX.run (pc' := 92) (L' := [some (.ref 37), some (.int (x1 + (-1))), some (.int x2), some (.int x3), some (.int x4), some (.int x5)]) (st' := []) (M' := M) (P := True) 1 rfl trivial ?_
          refine WX.forget2 (L' := [some (.ref 37), some (.int (x1 + (-1))), some (.int x2), none, none, none]) ?_ ⟨Or.inr rfl, Or.inr rfl, Or.inr rfl, Or.inl rfl, Or.inl rfl, Or.inl rfl, trivial⟩
          exact (h4 c1 c2 c4 c5)
        · refine WX.run (pc' := 388) (L' := [some (.ref 37), some (.int (x1 + (-1))), some (.int x2), some (.int x3), some (.int x4), some (.int x5)]) (st' := [.int (M.1 51 (x1 + (-1)).toNatClampNeg), .int (M.1 52 (x1 + (-1)).toNatClampNeg), .ref 37, .int 0, .ref 49]) (M' := M) (P := ((True ∧ vp_in (x1 + (-1)) 17) ∧ vp_in (x1 + (-1)) 17)) 12 rfl ⟨⟨trivial, (b5 c1 c2 c4 c5)⟩, (b5 c1 c2 c4 c5)⟩ ?_
          refine WX.callV (ca := mi_M_cellsOf) (n := 2) (d' := 3) (st := [.int 0, .ref 49]) (As := [.int (M.1 52 (x1 + (-1)).toNatClampNeg), .int (M.1 51 (x1 + (-1)).toNatClampNeg)]) (q := 37) rfl lk_7_151 ck_M_cellsOf cv_M_cellsOf rfl (by decide) rfl (Nat.le_of_ble_eq_true rfl) ⟨by decide, rfl, by decide⟩ (by intro w hw; simp only [List.mem_cons, List.not_mem_nil, or_false] at hw; rcases hw with rfl | rfl <;> rfl) (Nat.le_of_ble_eq_true rfl) ?_
          exact (h6 c1 c2 c4 c5)
      · refine WX.run (pc' := 317) (L' := [some (.ref 37), some (.int x1), some (.int x2), some (.int x3), some (.int x4), some (.int x5)]) (st' := [.int x5, .int x2, .ref 37, .int 0, .ref 49]) (M' := M) (P := True) 6 rfl trivial ?_
        refine WX.callV (ca := mi_M_cellsOf) (n := 2) (d' := 3) (st := [.int 0, .ref 49]) (As := [.int x2, .int x5]) (q := 37) rfl lk_7_151 ck_M_cellsOf cv_M_cellsOf rfl (by decide) rfl (Nat.le_of_ble_eq_true rfl) ⟨by decide, rfl, by decide⟩ (by intro w hw; simp only [List.mem_cons, List.not_mem_nil, or_false] at hw; rcases hw with rfl | rfl <;> rfl) (Nat.le_of_ble_eq_true rfl) ?_
        exact (h7 c1 c2 c4)
  · refine WX.run (pc' := 256) (L' := [some (.ref 37), some (.int x1), some (.int x2), some (.int x3), some (.int x4), some (.int x5)]) (st' := [.int 4, .int x2]) (M' := M) (P := True) 2 rfl trivial ?_
    refine WX.icmp_ge (off := 42) (tgt := 298) rfl rfl (fun c6 => ?_) (fun c6 => ?_)
    · refine WX.run (pc' := 300) (L' := [some (.ref 37), some (.int x1), some (.int x2), some (.int x3), some (.int x4), some (.int x5)]) (st' := [.int x4]) (M' := M) (P := True) 1 rfl trivial ?_
      refine WX.if_eq (off := 63) (tgt := 363) rfl rfl (fun c7 => ?_) (fun c7 => ?_)
      · refine WX.run (pc' := 367) (L' := [some (.ref 37), some (.int (x1 + (-1))), some (.int x2), some (.int x3), some (.int x4), some (.int x5)]) (st' := [.int (x1 + (-1))]) (M' := M) (P := True) 2 rfl trivial ?_
        refine WX.if_lt (off := 53) (tgt := 420) rfl rfl (fun c8 => ?_) (fun c8 => ?_)
        · refine WX.run (pc' := 92) (L' := [some (.ref 37), some (.int (x1 + (-1))), some (.int x2), some (.int x3), some (.int x4), some (.int x5)]) (st' := []) (M' := M) (P := True) 1 rfl trivial ?_
          refine WX.forget2 (L' := [some (.ref 37), some (.int (x1 + (-1))), some (.int x2), none, none, none]) ?_ ⟨Or.inr rfl, Or.inr rfl, Or.inr rfl, Or.inl rfl, Or.inl rfl, Or.inl rfl, trivial⟩
          exact (h8 c1 c6 c7 c8)
        · refine WX.run (pc' := 388) (L' := [some (.ref 37), some (.int (x1 + (-1))), some (.int x2), some (.int x3), some (.int x4), some (.int x5)]) (st' := [.int (M.1 51 (x1 + (-1)).toNatClampNeg), .int (M.1 52 (x1 + (-1)).toNatClampNeg), .ref 37, .int 0, .ref 49]) (M' := M) (P := ((True ∧ vp_in (x1 + (-1)) 17) ∧ vp_in (x1 + (-1)) 17)) 12 rfl ⟨⟨trivial, (b9 c1 c6 c7 c8)⟩, (b9 c1 c6 c7 c8)⟩ ?_
          refine WX.callV (ca := mi_M_cellsOf) (n := 2) (d' := 3) (st := [.int 0, .ref 49]) (As := [.int (M.1 52 (x1 + (-1)).toNatClampNeg), .int (M.1 51 (x1 + (-1)).toNatClampNeg)]) (q := 37) rfl lk_7_151 ck_M_cellsOf cv_M_cellsOf rfl (by decide) rfl (Nat.le_of_ble_eq_true rfl) ⟨by decide, rfl, by decide⟩ (by intro w hw; simp only [List.mem_cons, List.not_mem_nil, or_false] at hw; rcases hw with rfl | rfl <;> rfl) (Nat.le_of_ble_eq_true rfl) ?_
          exact (h10 c1 c6 c7 c8)
      · refine WX.run (pc' := 305) (L' := [some (.ref 37), some (.int x1), some (.int x2), some (.int x3), some (.int x4), some (.int x5)]) (st' := [.int 4, .int x2]) (M' := M) (P := True) 2 rfl trivial ?_
        refine WX.icmp_ge (off := 58) (tgt := 363) rfl rfl (fun c9 => ?_) (fun c9 => ?_)
        · refine WX.run (pc' := 367) (L' := [some (.ref 37), some (.int (x1 + (-1))), some (.int x2), some (.int x3), some (.int x4), some (.int x5)]) (st' := [.int (x1 + (-1))]) (M' := M) (P := True) 2 rfl trivial ?_
          refine WX.if_lt (off := 53) (tgt := 420) rfl rfl (fun c10 => ?_) (fun c10 => ?_)
          · refine WX.run (pc' := 92) (L' := [some (.ref 37), some (.int (x1 + (-1))), some (.int x2), some (.int x3), some (.int x4), some (.int x5)]) (st' := []) (M' := M) (P := True) 1 rfl trivial ?_
            refine WX.forget2 (L' := [some (.ref 37), some (.int (x1 + (-1))), some (.int x2), none, none, none]) ?_ ⟨Or.inr rfl, Or.inr rfl, Or.inr rfl, Or.inl rfl, Or.inl rfl, Or.inl rfl, trivial⟩
            exact (h11 c1 c6 c7 c9 c10)
          · refine WX.run (pc' := 388) (L' := [some (.ref 37), some (.int (x1 + (-1))), some (.int x2), some (.int x3), some (.int x4), some (.int x5)]) (st' := [.int (M.1 51 (x1 + (-1)).toNatClampNeg), .int (M.1 52 (x1 + (-1)).toNatClampNeg), .ref 37, .int 0, .ref 49]) (M' := M) (P := ((True ∧ vp_in (x1 + (-1)) 17) ∧ vp_in (x1 + (-1)) 17)) 12 rfl ⟨⟨trivial, (b12 c1 c6 c7 c9 c10)⟩, (b12 c1 c6 c7 c9 c10)⟩ ?_
            refine WX.callV (ca := mi_M_cellsOf) (n := 2) (d' := 3) (st := [.int 0, .ref 49]) (As := [.int (M.1 52 (x1 + (-1)).toNatClampNeg), .int (M.1 51 (x1 + (-1)).toNatClampNeg)]) (q := 37) rfl lk_7_151 ck_M_cellsOf cv_M_cellsOf rfl (by decide) rfl (Nat.le_of_ble_eq_true rfl) ⟨by decide, rfl, by decide⟩ (by intro w hw; simp only [List.mem_cons, List.not_mem_nil, or_false] at hw; rcases hw with rfl | rfl <;> rfl) (Nat.le_of_ble_eq_true rfl) ?_
            exact (h13 c1 c6 c7 c9 c10)
        · refine WX.run (pc' := 317) (L' := [some (.ref 37), some (.int x1), some (.int x2), some (.int x3), some (.int x4), some (.int x5)]) (st' := [.int x5, .int x2, .ref 37, .int 0, .ref 49]) (M' := M) (P := True) 6 rfl trivial ?_
          refine WX.callV (ca := mi_M_cellsOf) (n := 2) (d' := 3) (st := [.int 0, .ref 49]) (As := [.int x2, .int x5]) (q := 37) rfl lk_7_151 ck_M_cellsOf cv_M_cellsOf rfl (by decide) rfl (Nat.le_of_ble_eq_true rfl) ⟨by decide, rfl, by decide⟩ (by intro w hw; simp only [List.mem_cons, List.not_mem_nil, or_false] at hw; rcases hw with rfl | rfl <;> rfl) (Nat.le_of_ble_eq_true rfl) ?_
          exact (h14 c1 c6 c7 c9)
    · refine WX.run (pc' := 265) (L' := [some (.ref 37), some (.int x1), some (.int x2), some (.int x3), some (.int x4), some (.int x5)]) (st' := [.int (M.1 50 x2.toNatClampNeg)]) (M' := M) (P := (True ∧ vp_in x2 4)) 4 rfl ⟨trivial, (b15 c1 c6)⟩ ?_
      refine WX.if_eq (off := 27) (tgt := 292) rfl rfl (fun c11 => ?_) (fun c11 => ?_)
      · refine WX.run (pc' := 249) (L' := [some (.ref 37), some (.int x1), some (.int (x2 + 1)), some (.int x3), some (.int x4), some (.int x5)]) (st' := []) (M' := M) (P := True) 2 rfl trivial ?_
        exact (h16 c1 c6 c11)
      · refine WX.run (pc' := 272) (L' := [some (.ref 37), some (.int x1), some (.int x2), some (.int x3), some (.int x4), some (.int x5)]) (st' := [.int x5, .int x2, .ref 37]) (M' := M) (P := True) 3 rfl trivial ?_
        refine WX.callV (ca := mi_M_cellsOf) (n := 2) (d' := 3) (st := []) (As := [.int x2, .int x5]) (q := 37) rfl lk_7_151 ck_M_cellsOf cv_M_cellsOf rfl (by decide) rfl (Nat.le_of_ble_eq_true rfl) ⟨by decide, rfl, by decide⟩ (by intro w hw; simp only [List.mem_cons, List.not_mem_nil, or_false] at hw; rcases hw with rfl | rfl <;> rfl) (Nat.le_of_ble_eq_true rfl) ?_
        exact (h17 c1 c6 c11)
theorem sg_M_findPlan_37_243 {Q : Option Value → Mem → Prop} (M : Mem) (x1 x2 x3 x4 r : Int32)
    (h1 : WX mi_M_findPlan 5 Q 249 [some (.ref 37), some (.int x1), some (.int x2), some (.int x3), some (.int x4), some (.int r)] [] M) :
    WX mi_M_findPlan 5 Q 243 [some (.ref 37), some (.int x1), some (.int x2), some (.int x3), some (.int x4), none] [.int r] M := by
  refine WX.run (pc' := 249) (L' := [some (.ref 37), some (.int x1), some (.int x2), some (.int x3), some (.int x4), some (.int r)]) (st' := []) (M' := M) (P := True) 2 rfl trivial ?_
  exact h1
theorem sg_M_findPlan_37_136 {Q : Option Value → Mem → Prop} (M : Mem) (x1 x2 x3 r : Int32)
    (h1 : ¬ r = 0 → x3 = 0 → WX mi_M_findPlan 5 Q 249 [some (.ref 37), some (.int x1), some (.int x2), some (.int x3), some (.int 0), some (.int 0)] [] M)
    (h2 : ¬ r = 0 → ¬ x3 = 0 → (M.1 37 26) = (-9) → WX mi_M_lowest 1 (fun rv M' => WX mi_M_findPlan 5 Q 243 [some (.ref 37), some (.int x1), some (.int x2), some (.int x3), some (.int 1), none] (rv.toList ++ []) M') 0 [some (.ref 37), some (.int x3), none] [] M)
    (h3 : ¬ r = 0 → ¬ x3 = 0 → ¬ (M.1 37 26) = (-9) → (M.1 37 26) ≤ (x1 + 1) → WX mi_M_findPlan 5 Q 249 [some (.ref 37), some (.int x1), some (.int x2), some (.int x3), some (.int 0), some (.int 0)] [] M)
    (h4 : ¬ r = 0 → ¬ x3 = 0 → ¬ (M.1 37 26) = (-9) → ¬ (M.1 37 26) ≤ (x1 + 1) → WX mi_M_lowest 1 (fun rv M' => WX mi_M_findPlan 5 Q 243 [some (.ref 37), some (.int x1), some (.int x2), some (.int x3), some (.int 1), none] (rv.toList ++ []) M') 0 [some (.ref 37), some (.int x3), none] [] M)
    (h5 : r = 0 → WX mi_M_findPlan 5 Q 147 [some (.ref 37), some (.int x1), some (.int x2), some (.int x3), some (.int 0), none] [] (wr M 37 26 x1)) :
    WX mi_M_findPlan 5 Q 136 [some (.ref 37), some (.int x1), some (.int x2), some (.int x3), none, none] [.int r] M := by
  refine WX.if_ne (off := 67) (tgt := 203) rfl rfl (fun c1 => ?_) (fun c1 => ?_)
  · refine WX.run (pc' := 204) (L' := [some (.ref 37), some (.int x1), some (.int x2), some (.int x3), none, none]) (st' := [.int x3]) (M' := M) (P := True) 1 rfl trivial ?_
    refine WX.if_eq (off := 26) (tgt := 230) rfl rfl (fun c2 => ?_) (fun c2 => ?_)
    · refine WX.run (pc' := 235) (L' := [some (.ref 37), some (.int x1), some (.int x2), some (.int x3), some (.int 0), none]) (st' := [.int 0]) (M' := M) (P := True) 3 rfl trivial ?_
      refine WX.if_eq (off := 11) (tgt := 246) rfl rfl (fun _ => ?_) (fun c => absurd (by decide) c)
      refine WX.run (pc' := 249) (L' := [some (.ref 37), some (.int x1), some (.int x2), some (.int x3), some (.int 0), some (.int 0)]) (st' := []) (M' := M) (P := True) 2 rfl trivial ?_
      exact (h1 c1 c2)
    · refine WX.run (pc' := 213) (L' := [some (.ref 37), some (.int x1), some (.int x2), some (.int x3), none, none]) (st' := [.int (-9), .int (M.1 37 26)]) (M' := M) (P := True) 3 rfl trivial ?_
      refine WX.icmp_eq (off := 13) (tgt := 226) rfl rfl (fun c3 => ?_) (fun c3 => ?_)
      · refine WX.run (pc' := 235) (L' := [some (.ref 37), some (.int x1), some (.int x2), some (.int x3), some (.int 1), none]) (st' := [.int 1]) (M' := M) (P := True) 4 rfl trivial ?_
        refine WX.if_eq (off := 11) (tgt := 246) rfl rfl (fun c => absurd c (by decide)) (fun _ => ?_)
        refine WX.run (pc' := 240) (L' := [some (.ref 37), some (.int x1), some (.int x2), some (.int x3), some (.int 1), none]) (st' := [.int x3, .ref 37]) (M' := M) (P := True) 2 rfl trivial ?_
        refine WX.callV (ca := mi_M_lowest) (n := 1) (d' := 1) (st := []) (As := [.int x3]) (q := 37) rfl lk_7_212 ck_M_lowest cv_M_lowest rfl (by decide) rfl (Nat.le_of_ble_eq_true rfl) ⟨by decide, rfl, by decide⟩ (by intro w hw; simp only [List.mem_cons, List.not_mem_nil, or_false] at hw; rcases hw with rfl <;> rfl) (Nat.le_of_ble_eq_true rfl) ?_
        exact (h2 c1 c2 c3)
      · refine WX.run (pc' := 223) (L' := [some (.ref 37), some (.int x1), some (.int x2), some (.int x3), none, none]) (st' := [.int (M.1 37 26), .int (x1 + 1)]) (M' := M) (P := True) 5 rfl trivial ?_
        refine WX.icmp_ge (off := 7) (tgt := 230) rfl rfl (fun c4 => ?_) (fun c4 => ?_)
        · refine WX.run (pc' := 235) (L' := [some (.ref 37), some (.int x1), some (.int x2), some (.int x3), some (.int 0), none]) (st' := [.int 0]) (M' := M) (P := True) 3 rfl trivial ?_
          refine WX.if_eq (off := 11) (tgt := 246) rfl rfl (fun _ => ?_) (fun c => absurd (by decide) c)
          refine WX.run (pc' := 249) (L' := [some (.ref 37), some (.int x1), some (.int x2), some (.int x3), some (.int 0), some (.int 0)]) (st' := []) (M' := M) (P := True) 2 rfl trivial ?_
          exact (h3 c1 c2 c3 c4)
        · refine WX.run (pc' := 235) (L' := [some (.ref 37), some (.int x1), some (.int x2), some (.int x3), some (.int 1), none]) (st' := [.int 1]) (M' := M) (P := True) 4 rfl trivial ?_
          refine WX.if_eq (off := 11) (tgt := 246) rfl rfl (fun c => absurd c (by decide)) (fun _ => ?_)
          refine WX.run (pc' := 240) (L' := [some (.ref 37), some (.int x1), some (.int x2), some (.int x3), some (.int 1), none]) (st' := [.int x3, .ref 37]) (M' := M) (P := True) 2 rfl trivial ?_
          refine WX.callV (ca := mi_M_lowest) (n := 1) (d' := 1) (st := []) (As := [.int x3]) (q := 37) rfl lk_7_212 ck_M_lowest cv_M_lowest rfl (by decide) rfl (Nat.le_of_ble_eq_true rfl) ⟨by decide, rfl, by decide⟩ (by intro w hw; simp only [List.mem_cons, List.not_mem_nil, or_false] at hw; rcases hw with rfl <;> rfl) (Nat.le_of_ble_eq_true rfl) ?_
          exact (h4 c1 c2 c3 c4)
  · refine WX.run (pc' := 147) (L' := [some (.ref 37), some (.int x1), some (.int x2), some (.int x3), some (.int 0), none]) (st' := []) (M' := (wr M 37 26 x1)) (P := True) 5 rfl trivial ?_
    exact (h5 c1)
theorem sg_M_findPlan_37_391 {Q : Option Value → Mem → Prop} (M : Mem) (x1 x2 x3 x4 x5 r s1 : Int32)
    (h1 : WX mi_M_put 1 (fun rv M' => WX mi_M_findPlan 5 Q 396 [some (.ref 37), some (.int x1), some (.int x2), some (.int x3), some (.int x4), some (.int x5)] (rv.toList ++ []) M') 0 [some (.ref 49), some (.int s1), some (.int r), some (.int (-9)), none] [] M) :
    WX mi_M_findPlan 5 Q 391 [some (.ref 37), some (.int x1), some (.int x2), some (.int x3), some (.int x4), some (.int x5)] [.int r, .int s1, .ref 49] M := by
  refine WX.run (pc' := 393) (L' := [some (.ref 37), some (.int x1), some (.int x2), some (.int x3), some (.int x4), some (.int x5)]) (st' := [.int (-9), .int r, .int s1, .ref 49]) (M' := M) (P := True) 1 rfl trivial ?_
  refine WX.callS (ca := mi_M_put) (n := 4) (d' := 1) (st := []) (As := [.ref 49, .int s1, .int r, .int (-9)]) rfl lk_7_161 ck_M_put cs_M_put rfl (by decide) rfl (Nat.le_of_ble_eq_true rfl) (by intro w hw; simp only [List.mem_cons, List.not_mem_nil, or_false] at hw; rcases hw with rfl | rfl | rfl | rfl <;> rfl) (Nat.le_of_ble_eq_true rfl) ?_
  exact h1
theorem sg_M_findPlan_37_320 {Q : Option Value → Mem → Prop} (M : Mem) (x1 x2 x3 x4 x5 r s1 : Int32)
    (h1 : WX mi_M_put 1 (fun rv M' => WX mi_M_findPlan 5 Q 330 [some (.ref 37), some (.int x1), some (.int x2), some (.int x3), some (.int x4), some (.int x5)] (rv.toList ++ []) M') 0 [some (.ref 49), some (.int s1), some (.int r), some (.int ((16 * x2) + x5)), none] [] M) :
    WX mi_M_findPlan 5 Q 320 [some (.ref 37), some (.int x1), some (.int x2), some (.int x3), some (.int x4), some (.int x5)] [.int r, .int s1, .ref 49] M := by
  refine WX.run (pc' := 327) (L' := [some (.ref 37), some (.int x1), some (.int x2), some (.int x3), some (.int x4), some (.int x5)]) (st' := [.int ((16 * x2) + x5), .int r, .int s1, .ref 49]) (M' := M) (P := True) 5 rfl trivial ?_
  refine WX.callS (ca := mi_M_put) (n := 4) (d' := 1) (st := []) (As := [.ref 49, .int s1, .int r, .int ((16 * x2) + x5)]) rfl lk_7_161 ck_M_put cs_M_put rfl (by decide) rfl (Nat.le_of_ble_eq_true rfl) (by intro w hw; simp only [List.mem_cons, List.not_mem_nil, or_false] at hw; rcases hw with rfl | rfl | rfl | rfl <;> rfl) (Nat.le_of_ble_eq_true rfl) ?_
  exact h1
theorem sg_M_findPlan_37_275 {Q : Option Value → Mem → Prop} (M : Mem) (x1 x2 x3 x4 x5 r : Int32)
    (h1 : r = 0 → WX mi_M_findPlan 5 Q 249 [some (.ref 37), some (.int x1), some (.int (x2 + 1)), some (.int x3), some (.int x4), some (.int x5)] [] M)
    (h2 : ¬ r = 0 → WX mi_M_cellsOf 3 (fun rv M' => WX mi_M_findPlan 5 Q 285 [some (.ref 37), some (.int x1), some (.int x2), some (.int x3), some (.int x4), some (.int x5)] (rv.toList ++ []) M') 0 [some (.ref 37), some (.int x2), some (.int x5), none, none, none, none] [] M) :
    WX mi_M_findPlan 5 Q 275 [some (.ref 37), some (.int x1), some (.int x2), some (.int x3), some (.int x4), some (.int x5)] [.int r] M := by
  refine WX.if_eq (off := 17) (tgt := 292) rfl rfl (fun c1 => ?_) (fun c1 => ?_)
  · refine WX.run (pc' := 249) (L' := [some (.ref 37), some (.int x1), some (.int (x2 + 1)), some (.int x3), some (.int x4), some (.int x5)]) (st' := []) (M' := M) (P := True) 2 rfl trivial ?_
    exact (h1 c1)
  · refine WX.run (pc' := 282) (L' := [some (.ref 37), some (.int x1), some (.int x2), some (.int x3), some (.int x4), some (.int x5)]) (st' := [.int x5, .int x2, .ref 37]) (M' := M) (P := True) 3 rfl trivial ?_
    refine WX.callV (ca := mi_M_cellsOf) (n := 2) (d' := 3) (st := []) (As := [.int x2, .int x5]) (q := 37) rfl lk_7_151 ck_M_cellsOf cv_M_cellsOf rfl (by decide) rfl (Nat.le_of_ble_eq_true rfl) ⟨by decide, rfl, by decide⟩ (by intro w hw; simp only [List.mem_cons, List.not_mem_nil, or_false] at hw; rcases hw with rfl | rfl <;> rfl) (Nat.le_of_ble_eq_true rfl) ?_
    exact (h2 c1)
theorem sg_M_findPlan_37_147 {Q : Option Value → Mem → Prop} (M : Mem) (x1 x2 x3 x4 : Int32)
    (h1 : 16 ≤ x4 → WX mi_M_findPlan 5 Q 172 [some (.ref 37), some (.int x1), some (.int x2), some (.int x3), some (.int 0), none] [] M)
    (b2 : ¬ 16 ≤ x4 → vp_in x4 16)
    (h3 : ¬ 16 ≤ x4 → WX mi_M_findPlan 5 Q 147 [some (.ref 37), some (.int x1), some (.int x2), some (.int x3), some (.int (x4 + 1)), none] [] (wr M 53 x4.toNatClampNeg (-9))) :
    WX mi_M_findPlan 5 Q 147 [some (.ref 37), some (.int x1), some (.int x2), some (.int x3), some (.int x4), none] [] M := by
  refine WX.run (pc' := 151) (L' := [some (.ref 37), some (.int x1), some (.int x2), some (.int x3), some (.int x4), none]) (st' := [.int 16, .int x4]) (M' := M) (P := True) 2 rfl trivial ?_
  refine WX.icmp_ge (off := 18) (tgt := 169) rfl rfl (fun c1 => ?_) (fun c1 => ?_)
  · refine WX.run (pc' := 172) (L' := [some (.ref 37), some (.int x1), some (.int x2), some (.int x3), some (.int 0), none]) (st' := []) (M' := M) (P := True) 2 rfl trivial ?_
    exact (h1 c1)
  · refine WX.run (pc' := 147) (L' := [some (.ref 37), some (.int x1), some (.int x2), some (.int x3), some (.int (x4 + 1)), none]) (st' := []) (M' := (wr M 53 x4.toNatClampNeg (-9))) (P := (True ∧ vp_in x4 16)) 7 rfl ⟨trivial, (b2 c1)⟩ ?_
    exact (h3 c1)
theorem sg_M_findPlan_37_396 {Q : Option Value → Mem → Prop} (M : Mem) (x1 x2 x3 x4 x5 : Int32)
    (b1 : vp_in x1 17)
    (b2 : vp_in (M.1 52 x1.toNatClampNeg) 4)
    (h3 : WX mi_M_findPlan 5 Q 92 [some (.ref 37), some (.int x1), some (.int ((M.1 52 x1.toNatClampNeg) + 1)), none, none, none] [] (wr M 50 (M.1 52 x1.toNatClampNeg).toNatClampNeg ((M.1 50 (M.1 52 x1.toNatClampNeg).toNatClampNeg) + 1))) :
    WX mi_M_findPlan 5 Q 396 [some (.ref 37), some (.int x1), some (.int x2), some (.int x3), some (.int x4), some (.int x5)] [] M := by
  refine WX.run (pc' := 92) (L' := [some (.ref 37), some (.int x1), some (.int ((M.1 52 x1.toNatClampNeg) + 1)), some (.int x3), some (.int x4), some (.int x5)]) (st' := []) (M' := (wr M 50 (M.1 52 x1.toNatClampNeg).toNatClampNeg ((M.1 50 (M.1 52 x1.toNatClampNeg).toNatClampNeg) + 1))) (P := ((((True ∧ vp_in x1 17) ∧ vp_in (M.1 52 x1.toNatClampNeg) 4) ∧ vp_in (M.1 52 x1.toNatClampNeg) 4) ∧ vp_in x1 17)) 19 rfl ⟨⟨⟨⟨trivial, b1⟩, b2⟩, b2⟩, b1⟩ ?_
  refine WX.forget2 (L' := [some (.ref 37), some (.int x1), some (.int ((M.1 52 x1.toNatClampNeg) + 1)), none, none, none]) ?_ ⟨Or.inr rfl, Or.inr rfl, Or.inr rfl, Or.inl rfl, Or.inl rfl, Or.inl rfl, trivial⟩
  exact h3
theorem sg_M_findPlan_37_330 {Q : Option Value → Mem → Prop} (M : Mem) (x1 x2 x3 x4 x5 : Int32)
    (b1 : vp_in x2 4)
    (b2 : vp_in x1 17)
    (h3 : WX mi_M_findPlan 5 Q 92 [some (.ref 37), some (.int (x1 + 1)), some (.int 0), none, none, none] [] (wr (wr (wr M 50 x2.toNatClampNeg ((M.1 50 x2.toNatClampNeg) - 1)) 51 x1.toNatClampNeg x5) 52 x1.toNatClampNeg x2)) :
    WX mi_M_findPlan 5 Q 330 [some (.ref 37), some (.int x1), some (.int x2), some (.int x3), some (.int x4), some (.int x5)] [] M := by
  refine WX.run (pc' := 92) (L' := [some (.ref 37), some (.int (x1 + 1)), some (.int 0), some (.int x3), some (.int x4), some (.int x5)]) (st' := []) (M' := (wr (wr (wr M 50 x2.toNatClampNeg ((M.1 50 x2.toNatClampNeg) - 1)) 51 x1.toNatClampNeg x5) 52 x1.toNatClampNeg x2)) (P := ((((True ∧ vp_in x2 4) ∧ vp_in x2 4) ∧ vp_in x1 17) ∧ vp_in x1 17)) 23 rfl ⟨⟨⟨⟨trivial, b1⟩, b1⟩, b2⟩, b2⟩ ?_
  refine WX.forget2 (L' := [some (.ref 37), some (.int (x1 + 1)), some (.int 0), none, none, none]) ?_ ⟨Or.inr rfl, Or.inr rfl, Or.inr rfl, Or.inl rfl, Or.inl rfl, Or.inl rfl, trivial⟩
  exact h3
theorem sg_M_findPlan_37_285 {Q : Option Value → Mem → Prop} (M : Mem) (x1 x2 x3 x4 x5 r : Int32)
    (h1 : (r &&& (x3 ^^^ (-1))) = 0 → x4 = 0 → (x1 + (-1)) < 0 → WX mi_M_findPlan 5 Q 92 [some (.ref 37), some (.int (x1 + (-1))), some (.int x2), none, none, none] [] M)
    (b2 : (r &&& (x3 ^^^ (-1))) = 0 → x4 = 0 → ¬ (x1 + (-1)) < 0 → vp_in (x1 + (-1)) 17)
    (h3 : (r &&& (x3 ^^^ (-1))) = 0 → x4 = 0 → ¬ (x1 + (-1)) < 0 → WX mi_M_cellsOf 3 (fun rv M' => WX mi_M_findPlan 5 Q 391 [some (.ref 37), some (.int (x1 + (-1))), some (.int x2), some (.int x3), some (.int x4), some (.int x5)] (rv.toList ++ [.int 0, .ref 49]) M') 0 [some (.ref 37), some (.int (M.1 52 (x1 + (-1)).toNatClampNeg)), some (.int (M.1 51 (x1 + (-1)).toNatClampNeg)), none, none, none, none] [] M)
    (h4 : (r &&& (x3 ^^^ (-1))) = 0 → ¬ x4 = 0 → 4 ≤ x2 → (x1 + (-1)) < 0 → WX mi_M_findPlan 5 Q 92 [some (.ref 37), some (.int (x1 + (-1))), some (.int x2), none, none, none] [] M)
    (b5 : (r &&& (x3 ^^^ (-1))) = 0 → ¬ x4 = 0 → 4 ≤ x2 → ¬ (x1 + (-1)) < 0 → vp_in (x1 + (-1)) 17)
    (h6 : (r &&& (x3 ^^^ (-1))) = 0 → ¬ x4 = 0 → 4 ≤ x2 → ¬ (x1 + (-1)) < 0 → WX mi_M_cellsOf 3 (fun rv M' => WX mi_M_findPlan 5 Q 391 [some (.ref 37), some (.int (x1 + (-1))), some (.int x2), some (.int x3), some (.int x4), some (.int x5)] (rv.toList ++ [.int 0, .ref 49]) M') 0 [some (.ref 37), some (.int (M.1 52 (x1 + (-1)).toNatClampNeg)), some (.int (M.1 51 (x1 + (-1)).toNatClampNeg)), none, none, none, none] [] M)
    (h7 : (r &&& (x3 ^^^ (-1))) = 0 → ¬ x4 = 0 → ¬ 4 ≤ x2 → WX mi_M_cellsOf 3 (fun rv M' => WX mi_M_findPlan 5 Q 320 [some (.ref 37), some (.int x1), some (.int x2), some (.int x3), some (.int x4), some (.int x5)] (rv.toList ++ [.int 0, .ref 49]) M') 0 [some (.ref 37), some (.int x2), some (.int x5), none, none, none, none] [] M)
    (h8 : ¬ (r &&& (x3 ^^^ (-1))) = 0 → WX mi_M_findPlan 5 Q 249 [some (.ref 37), some (.int x1), some (.int (x2 + 1)), some (.int x3), some (.int x4), some (.int x5)] [] M) :
    WX mi_M_findPlan 5 Q 285 [some (.ref 37), some (.int x1), some (.int x2), some (.int x3), some (.int x4), some (.int x5)] [.int r] M := by
  refine WX.run (pc' := 289) (L' := [some (.ref 37), some (.int x1), some (.int x2), some (.int x3), some (.int x4), some (.int x5)]) (st' := [.int (r &&& (x3 ^^^ (-1)))]) (M' := M) (P := True) 4 rfl trivial ?_
  refine WX.if_eq (off := 9) (tgt := 298) rfl rfl (fun c1 => ?_) (fun c1 => ?_)
  · refine WX.run (pc' := 300) (L' := [some (.ref 37), some (.int x1), some (.int x2), some (.int x3), some (.int x4), some (.int x5)]) (st' := [.int x4]) (M' := M) (P := True) 1 rfl trivial ?_
    refine WX.if_eq (off := 63) (tgt := 363) rfl rfl (fun c2 => ?_) (fun c2 => ?_)
    · refine WX.run (pc' := 367) (L' := [some (.ref 37), some (.int (x1 + (-1))), some (.int x2), some (.int x3), some (.int x4), some (.int x5)]) (st' := [.int (x1 + (-1))]) (M' := M) (P := True) 2 rfl trivial ?_
      refine WX.if_lt (off := 53) (tgt := 420) rfl rfl (fun c3 => ?_) (fun c3 => ?_)
      · refine WX.run (pc' := 92) (L' := [some (.ref 37), some (.int (x1 + (-1))), some (.int x2), some (.int x3), some (.int x4), some (.int x5)]) (st' := []) (M' := M) (P := True) 1 rfl trivial ?_
        refine WX.forget2 (L' := [some (.ref 37), some (.int (x1 + (-1))), some (.int x2), none, none, none]) ?_ ⟨Or.inr rfl, Or.inr rfl, Or.inr rfl, Or.inl rfl, Or.inl rfl, Or.inl rfl, trivial⟩
        exact (h1 c1 c2 c3)
      · refine WX.run (pc' := 388) (L' := [some (.ref 37), some (.int (x1 + (-1))), some (.int x2), some (.int x3), some (.int x4), some (.int x5)]) (st' := [.int (M.1 51 (x1 + (-1)).toNatClampNeg), .int (M.1 52 (x1 + (-1)).toNatClampNeg), .ref 37, .int 0, .ref 49]) (M' := M) (P := ((True ∧ vp_in (x1 + (-1)) 17) ∧ vp_in (x1 + (-1)) 17)) 12 rfl ⟨⟨trivial, (b2 c1 c2 c3)⟩, (b2 c1 c2 c3)⟩ ?_
        refine WX.callV (ca := mi_M_cellsOf) (n := 2) (d' := 3) (st := [.int 0, .ref 49]) (As := [.int (M.1 52 (x1 + (-1)).toNatClampNeg), .int (M.1 51 (x1 + (-1)).toNatClampNeg)]) (q := 37) rfl lk_7_151 ck_M_cellsOf cv_M_cellsOf rfl (by decide) rfl (Nat.le_of_ble_eq_true rfl) ⟨by decide, rfl, by decide⟩ (by intro w hw; simp only [List.mem_cons, List.not_mem_nil, or_false] at hw; rcases hw with rfl | rfl <;> rfl) (Nat.le_of_ble_eq_true rfl) ?_
        exact (h3 c1 c2 c3)
    · refine WX.run (pc' := 305) (L' := [some (.ref 37), some (.int x1), some (.int x2), some (.int x3), some (.int x4), some (.int x5)]) (st' := [.int 4, .int x2]) (M' := M) (P := True) 2 rfl trivial ?_
      refine WX.icmp_ge (off := 58) (tgt := 363) rfl rfl (fun c4 => ?_) (fun c4 => ?_)
      · refine WX.run (pc' := 367) (L' := [some (.ref 37), some (.int (x1 + (-1))), some (.int x2), some (.int x3), some (.int x4), some (.int x5)]) (st' := [.int (x1 + (-1))]) (M' := M) (P := True) 2 rfl trivial ?_
        refine WX.if_lt (off := 53) (tgt := 420) rfl rfl (fun c5 => ?_) (fun c5 => ?_)
        · refine WX.run (pc' := 92) (L' := [some (.ref 37), some (.int (x1 + (-1))), some (.int x2), some (.int x3), some (.int x4), some (.int x5)]) (st' := []) (M' := M) (P := True) 1 rfl trivial ?_
          refine WX.forget2 (L' := [some (.ref 37), some (.int (x1 + (-1))), some (.int x2), none, none, none]) ?_ ⟨Or.inr rfl, Or.inr rfl, Or.inr rfl, Or.inl rfl, Or.inl rfl, Or.inl rfl, trivial⟩
          exact (h4 c1 c2 c4 c5)
        · refine WX.run (pc' := 388) (L' := [some (.ref 37), some (.int (x1 + (-1))), some (.int x2), some (.int x3), some (.int x4), some (.int x5)]) (st' := [.int (M.1 51 (x1 + (-1)).toNatClampNeg), .int (M.1 52 (x1 + (-1)).toNatClampNeg), .ref 37, .int 0, .ref 49]) (M' := M) (P := ((True ∧ vp_in (x1 + (-1)) 17) ∧ vp_in (x1 + (-1)) 17)) 12 rfl ⟨⟨trivial, (b5 c1 c2 c4 c5)⟩, (b5 c1 c2 c4 c5)⟩ ?_
          refine WX.callV (ca := mi_M_cellsOf) (n := 2) (d' := 3) (st := [.int 0, .ref 49]) (As := [.int (M.1 52 (x1 + (-1)).toNatClampNeg), .int (M.1 51 (x1 + (-1)).toNatClampNeg)]) (q := 37) rfl lk_7_151 ck_M_cellsOf cv_M_cellsOf rfl (by decide) rfl (Nat.le_of_ble_eq_true rfl) ⟨by decide, rfl, by decide⟩ (by intro w hw; simp only [List.mem_cons, List.not_mem_nil, or_false] at hw; rcases hw with rfl | rfl <;> rfl) (Nat.le_of_ble_eq_true rfl) ?_
          exact (h6 c1 c2 c4 c5)
      · refine WX.run (pc' := 317) (L' := [some (.ref 37), some (.int x1), some (.int x2), some (.int x3), some (.int x4), some (.int x5)]) (st' := [.int x5, .int x2, .ref 37, .int 0, .ref 49]) (M' := M) (P := True) 6 rfl trivial ?_
        refine WX.callV (ca := mi_M_cellsOf) (n := 2) (d' := 3) (st := [.int 0, .ref 49]) (As := [.int x2, .int x5]) (q := 37) rfl lk_7_151 ck_M_cellsOf cv_M_cellsOf rfl (by decide) rfl (Nat.le_of_ble_eq_true rfl) ⟨by decide, rfl, by decide⟩ (by intro w hw; simp only [List.mem_cons, List.not_mem_nil, or_false] at hw; rcases hw with rfl | rfl <;> rfl) (Nat.le_of_ble_eq_true rfl) ?_
        exact (h7 c1 c2 c4)
  · refine WX.run (pc' := 249) (L' := [some (.ref 37), some (.int x1), some (.int (x2 + 1)), some (.int x3), some (.int x4), some (.int x5)]) (st' := []) (M' := M) (P := True) 2 rfl trivial ?_
    exact (h8 c1)
theorem sg_M_findPlan_37_172 {Q : Option Value → Mem → Prop} (M : Mem) (x1 x2 x3 x4 : Int32)
    (h1 : x1 ≤ x4 → x3 = 0 → WX mi_M_findPlan 5 Q 249 [some (.ref 37), some (.int x1), some (.int x2), some (.int x3), some (.int 0), some (.int 0)] [] M)
    (h2 : x1 ≤ x4 → ¬ x3 = 0 → (M.1 37 26) = (-9) → WX mi_M_lowest 1 (fun rv M' => WX mi_M_findPlan 5 Q 243 [some (.ref 37), some (.int x1), some (.int x2), some (.int x3), some (.int 1), none] (rv.toList ++ []) M') 0 [some (.ref 37), some (.int x3), none] [] M)
    (h3 : x1 ≤ x4 → ¬ x3 = 0 → ¬ (M.1 37 26) = (-9) → (M.1 37 26) ≤ (x1 + 1) → WX mi_M_findPlan 5 Q 249 [some (.ref 37), some (.int x1), some (.int x2), some (.int x3), some (.int 0), some (.int 0)] [] M)
    (h4 : x1 ≤ x4 → ¬ x3 = 0 → ¬ (M.1 37 26) = (-9) → ¬ (M.1 37 26) ≤ (x1 + 1) → WX mi_M_lowest 1 (fun rv M' => WX mi_M_findPlan 5 Q 243 [some (.ref 37), some (.int x1), some (.int x2), some (.int x3), some (.int 1), none] (rv.toList ++ []) M') 0 [some (.ref 37), some (.int x3), none] [] M)
    (b5 : ¬ x1 ≤ x4 → vp_in x4 17)
    (b6 : ¬ x1 ≤ x4 → vp_in (M.1 51 x4.toNatClampNeg) 16)
    (h7 : ¬ x1 ≤ x4 → WX mi_M_findPlan 5 Q 172 [some (.ref 37), some (.int x1), some (.int x2), some (.int x3), some (.int (x4 + 1)), none] [] (wr M 53 (M.1 51 x4.toNatClampNeg).toNatClampNeg (M.1 52 x4.toNatClampNeg))) :
    WX mi_M_findPlan 5 Q 172 [some (.ref 37), some (.int x1), some (.int x2), some (.int x3), some (.int x4), none] [] M := by
  refine WX.run (pc' := 175) (L' := [some (.ref 37), some (.int x1), some (.int x2), some (.int x3), some (.int x4), none]) (st' := [.int x1, .int x4]) (M' := M) (P := True) 2 rfl trivial ?_
  refine WX.icmp_ge (off := 28) (tgt := 203) rfl rfl (fun c1 => ?_) (fun c1 => ?_)
  · refine WX.run (pc' := 204) (L' := [some (.ref 37), some (.int x1), some (.int x2), some (.int x3), some (.int x4), none]) (st' := [.int x3]) (M' := M) (P := True) 1 rfl trivial ?_
    refine WX.if_eq (off := 26) (tgt := 230) rfl rfl (fun c2 => ?_) (fun c2 => ?_)
    · refine WX.run (pc' := 235) (L' := [some (.ref 37), some (.int x1), some (.int x2), some (.int x3), some (.int 0), none]) (st' := [.int 0]) (M' := M) (P := True) 3 rfl trivial ?_
      refine WX.if_eq (off := 11) (tgt := 246) rfl rfl (fun _ => ?_) (fun c => absurd (by decide) c)
      refine WX.run (pc' := 249) (L' := [some (.ref 37), some (.int x1), some (.int x2), some (.int x3), some (.int 0), some (.int 0)]) (st' := []) (M' := M) (P := True) 2 rfl trivial ?_
      exact (h1 c1 c2)
    · refine WX.run (pc' := 213) (L' := [some (.ref 37), some (.int x1), some (.int x2), some (.int x3), some (.int x4), none]) (st' := [.int (-9), .int (M.1 37 26)]) (M' := M) (P := True) 3 rfl trivial ?_
      refine WX.icmp_eq (off := 13) (tgt := 226) rfl rfl (fun c3 => ?_) (fun c3 => ?_)
      · refine WX.run (pc' := 235) (L' := [some (.ref 37), some (.int x1), some (.int x2), some (.int x3), some (.int 1), none]) (st' := [.int 1]) (M' := M) (P := True) 4 rfl trivial ?_
        refine WX.if_eq (off := 11) (tgt := 246) rfl rfl (fun c => absurd c (by decide)) (fun _ => ?_)
        refine WX.run (pc' := 240) (L' := [some (.ref 37), some (.int x1), some (.int x2), some (.int x3), some (.int 1), none]) (st' := [.int x3, .ref 37]) (M' := M) (P := True) 2 rfl trivial ?_
        refine WX.callV (ca := mi_M_lowest) (n := 1) (d' := 1) (st := []) (As := [.int x3]) (q := 37) rfl lk_7_212 ck_M_lowest cv_M_lowest rfl (by decide) rfl (Nat.le_of_ble_eq_true rfl) ⟨by decide, rfl, by decide⟩ (by intro w hw; simp only [List.mem_cons, List.not_mem_nil, or_false] at hw; rcases hw with rfl <;> rfl) (Nat.le_of_ble_eq_true rfl) ?_
        exact (h2 c1 c2 c3)
      · refine WX.run (pc' := 223) (L' := [some (.ref 37), some (.int x1), some (.int x2), some (.int x3), some (.int x4), none]) (st' := [.int (M.1 37 26), .int (x1 + 1)]) (M' := M) (P := True) 5 rfl trivial ?_
        refine WX.icmp_ge (off := 7) (tgt := 230) rfl rfl (fun c4 => ?_) (fun c4 => ?_)
        · refine WX.run (pc' := 235) (L' := [some (.ref 37), some (.int x1), some (.int x2), some (.int x3), some (.int 0), none]) (st' := [.int 0]) (M' := M) (P := True) 3 rfl trivial ?_
          refine WX.if_eq (off := 11) (tgt := 246) rfl rfl (fun _ => ?_) (fun c => absurd (by decide) c)
          refine WX.run (pc' := 249) (L' := [some (.ref 37), some (.int x1), some (.int x2), some (.int x3), some (.int 0), some (.int 0)]) (st' := []) (M' := M) (P := True) 2 rfl trivial ?_
          exact (h3 c1 c2 c3 c4)
        · refine WX.run (pc' := 235) (L' := [some (.ref 37), some (.int x1), some (.int x2), some (.int x3), some (.int 1), none]) (st' := [.int 1]) (M' := M) (P := True) 4 rfl trivial ?_
          refine WX.if_eq (off := 11) (tgt := 246) rfl rfl (fun c => absurd c (by decide)) (fun _ => ?_)
          refine WX.run (pc' := 240) (L' := [some (.ref 37), some (.int x1), some (.int x2), some (.int x3), some (.int 1), none]) (st' := [.int x3, .ref 37]) (M' := M) (P := True) 2 rfl trivial ?_
          refine WX.callV (ca := mi_M_lowest) (n := 1) (d' := 1) (st := []) (As := [.int x3]) (q := 37) rfl lk_7_212 ck_M_lowest cv_M_lowest rfl (by decide) rfl (Nat.le_of_ble_eq_true rfl) ⟨by decide, rfl, by decide⟩ (by intro w hw; simp only [List.mem_cons, List.not_mem_nil, or_false] at hw; rcases hw with rfl <;> rfl) (Nat.le_of_ble_eq_true rfl) ?_
          exact (h4 c1 c2 c3 c4)
  · refine WX.run (pc' := 172) (L' := [some (.ref 37), some (.int x1), some (.int x2), some (.int x3), some (.int (x4 + 1)), none]) (st' := []) (M' := (wr M 53 (M.1 51 x4.toNatClampNeg).toNatClampNeg (M.1 52 x4.toNatClampNeg))) (P := (((True ∧ vp_in x4 17) ∧ vp_in x4 17) ∧ vp_in (M.1 51 x4.toNatClampNeg) 16)) 13 rfl ⟨⟨⟨trivial, (b5 c1)⟩, (b5 c1)⟩, (b6 c1)⟩ ?_
    exact (h7 c1)
theorem sg_M_type_37_0 {Q : Option Value → Mem → Prop} (M : Mem) (x1 : Int32)
    (b1 : ¬ (z_M_in x1 0 255) = 0 → ¬ (M.1 37 2) = 150 → vp_in (M.1 37 2) 150)
    (h2 : ¬ (z_M_in x1 0 255) = 0 → ¬ (M.1 37 2) = 150 → Q (some (.int ((M.1 37 2) + 1))) (wr (wr M 38 (M.1 37 2).toNatClampNeg (vp_nar .byte (x1).toInt8.toInt32)) 37 2 ((M.1 37 2) + 1)))
    (h3 : ¬ (z_M_in x1 0 255) = 0 → (M.1 37 2) = 150 → Q (some (.int (-3))) M)
    (h4 : (z_M_in x1 0 255) = 0 → Q (some (.int (-1))) M) :
    WX mi_M_type 2 Q 0 [some (.ref 37), some (.int x1)] [] M := by
  refine WX.run (pc' := 5) (L' := [some (.ref 37), some (.int x1)]) (st' := [.int 255, .int 0, .int x1]) (M' := M) (P := True) 3 rfl trivial ?_
  refine WX.callS (ca := mi_M_in) (n := 3) (d' := 1) (st := []) (As := [.int x1, .int 0, .int 255]) rfl lk_7_72 ck_M_in cs_M_in rfl (by decide) rfl (Nat.le_of_ble_eq_true rfl) (by intro w hw; simp only [List.mem_cons, List.not_mem_nil, or_false] at hw; rcases hw with rfl | rfl | rfl <;> rfl) (Nat.le_of_ble_eq_true rfl) ?_
  refine wx_M_in M x1 0 255 ?_
  show WX mi_M_type 2 Q 8 [some (.ref 37), some (.int x1)] [.int (z_M_in x1 0 255)] M
  refine WX.if_ne (off := 5) (tgt := 13) rfl rfl (fun c1 => ?_) (fun c1 => ?_)
  · refine WX.run (pc' := 20) (L' := [some (.ref 37), some (.int x1)]) (st' := [.int 150, .int (M.1 37 2)]) (M' := M) (P := True) 3 rfl trivial ?_
    refine WX.icmp_ne (off := 6) (tgt := 26) rfl rfl (fun c2 => ?_) (fun c2 => ?_)
    · refine WX.run (pc' := 51) (L' := [some (.ref 37), some (.int x1)]) (st' := [.int ((M.1 37 2) + 1)]) (M' := (wr (wr M 38 (M.1 37 2).toNatClampNeg (vp_nar .byte (x1).toInt8.toInt32)) 37 2 ((M.1 37 2) + 1))) (P := (True ∧ vp_in (M.1 37 2) 150)) 15 rfl ⟨trivial, (b1 c1 c2)⟩ ?_
      exact WX.iret rfl rfl (h2 c1 c2)
    · refine WX.run (pc' := 25) (L' := [some (.ref 37), some (.int x1)]) (st' := [.int (-3)]) (M' := M) (P := True) 1 rfl trivial ?_
      exact WX.iret rfl rfl (h3 c1 c2)
  · refine WX.run (pc' := 12) (L' := [some (.ref 37), some (.int x1)]) (st' := [.int (-1)]) (M' := M) (P := True) 1 rfl trivial ?_
    exact WX.iret rfl rfl (h4 c1)
theorem sg_M_clear_37_0 {Q : Option Value → Mem → Prop} (M : Mem)
    (h1 : Q (some (.int (M.1 37 2))) (wr M 37 2 0)) :
    WX mi_M_clear 1 Q 0 [some (.ref 37), none] [] M := by
  refine WX.run (pc' := 11) (L' := [some (.ref 37), some (.int (M.1 37 2))]) (st' := [.int (M.1 37 2)]) (M' := (wr M 37 2 0)) (P := True) 7 rfl trivial ?_
  exact WX.iret rfl rfl h1
theorem sg_M_cell_37_0 {Q : Option Value → Mem → Prop} (M : Mem) (x1 x2 x3 : Int32)
    (b1 : ¬ (z_M_isCell_37 M x1 x2) = 0 → vp_in (16 + ((4 * x2) + x1)) 1257)
    (b2 : ¬ (z_M_isCell_37 M x1 x2) = 0 → x3 = 0 → vp_in ((4 * x2) + x1) 1257)
    (h3 : ¬ (z_M_isCell_37 M x1 x2) = 0 → x3 = 0 → Q (some (.int (M.1 46 ((4 * x2) + x1).toNatClampNeg))) M)
    (h4 : ¬ (z_M_isCell_37 M x1 x2) = 0 → ¬ x3 = 0 → x3 = 1 → (z_M_isLid_37 M ((4 * x2) + x1)) = 0 → (z_M_isDrain_37 M ((4 * x2) + x1)) = 0 → Q (some (.int 0)) M)
    (h5 : ¬ (z_M_isCell_37 M x1 x2) = 0 → ¬ x3 = 0 → x3 = 1 → (z_M_isLid_37 M ((4 * x2) + x1)) = 0 → ¬ (z_M_isDrain_37 M ((4 * x2) + x1)) = 0 → Q (some (.int 2)) M)
    (h6 : ¬ (z_M_isCell_37 M x1 x2) = 0 → ¬ x3 = 0 → x3 = 1 → ¬ (z_M_isLid_37 M ((4 * x2) + x1)) = 0 → Q (some (.int 1)) M)
    (h7 : ¬ (z_M_isCell_37 M x1 x2) = 0 → ¬ x3 = 0 → ¬ x3 = 1 → x3 = 2 → ¬ (M.1 46 (16 + ((4 * x2) + x1)).toNatClampNeg) = (-9) → Q (some (.int ((M.1 46 (16 + ((4 * x2) + x1)).toNatClampNeg) / 16))) M)
    (h8 : ¬ (z_M_isCell_37 M x1 x2) = 0 → ¬ x3 = 0 → ¬ x3 = 1 → x3 = 2 → (M.1 46 (16 + ((4 * x2) + x1)).toNatClampNeg) = (-9) → Q (some (.int (-9))) M)
    (h9 : ¬ (z_M_isCell_37 M x1 x2) = 0 → ¬ x3 = 0 → ¬ x3 = 1 → ¬ x3 = 2 → x3 = 3 → ¬ (M.1 46 (16 + ((4 * x2) + x1)).toNatClampNeg) = (-9) → Q (some (.int (rem (M.1 46 (16 + ((4 * x2) + x1)).toNatClampNeg) 16))) M)
    (h10 : ¬ (z_M_isCell_37 M x1 x2) = 0 → ¬ x3 = 0 → ¬ x3 = 1 → ¬ x3 = 2 → x3 = 3 → (M.1 46 (16 + ((4 * x2) + x1)).toNatClampNeg) = (-9) → Q (some (.int (-9))) M)
    (h11 : ¬ (z_M_isCell_37 M x1 x2) = 0 → ¬ x3 = 0 → ¬ x3 = 1 → ¬ x3 = 2 → ¬ x3 = 3 → x3 = 4 → Q (some (.int ((shr (M.1 46 36) ((4 * x2) + x1)) &&& 1))) M)
    (h12 : ¬ (z_M_isCell_37 M x1 x2) = 0 → ¬ x3 = 0 → ¬ x3 = 1 → ¬ x3 = 2 → ¬ x3 = 3 → ¬ x3 = 4 → Q (some (.int (-1))) M)
    (h13 : (z_M_isCell_37 M x1 x2) = 0 → Q (some (.int (-1))) M) :
    WX mi_M_cell 3 Q 0 [some (.ref 37), some (.int x1), some (.int x2), some (.int x3), none, none] [] M := by
  refine WX.run (pc' := 3) (L' := [some (.ref 37), some (.int x1), some (.int x2), some (.int x3), none, none]) (st' := [.int x2, .int x1, .ref 37]) (M' := M) (P := True) 3 rfl trivial ?_
  refine WX.callV (ca := mi_M_isCell) (n := 2) (d' := 2) (st := []) (As := [.int x1, .int x2]) (q := 37) rfl lk_7_131 ck_M_isCell cv_M_isCell rfl (by decide) rfl (Nat.le_of_ble_eq_true rfl) ⟨by decide, rfl, by decide⟩ (by intro w hw; simp only [List.mem_cons, List.not_mem_nil, or_false] at hw; rcases hw with rfl | rfl <;> rfl) (Nat.le_of_ble_eq_true rfl) ?_
  refine wx_M_isCell_37 M x1 x2 ?_
  show WX mi_M_cell 3 Q 6 [some (.ref 37), some (.int x1), some (.int x2), some (.int x3), none, none] [.int (z_M_isCell_37 M x1 x2)] M
  refine WX.if_ne (off := 5) (tgt := 11) rfl rfl (fun c1 => ?_) (fun c1 => ?_)
  · refine WX.run (pc' := 31) (L' := [some (.ref 37), some (.int x1), some (.int x2), some (.int x3), some (.int ((4 * x2) + x1)), some (.int (M.1 46 (16 + ((4 * x2) + x1)).toNatClampNeg))]) (st' := [.int x3]) (M' := M) (P := (True ∧ vp_in (16 + ((4 * x2) + x1)) 1257)) 14 rfl ⟨trivial, (b1 c1)⟩ ?_
    by_cases c2 : x3 = 0
    · refine WX.tsw (tgt := 64) rfl (by decide) (by rw [c2]; decide) ?_
      refine WX.run (pc' := 71) (L' := [some (.ref 37), some (.int x1), some (.int x2), some (.int x3), some (.int ((4 * x2) + x1)), some (.int (M.1 46 (16 + ((4 * x2) + x1)).toNatClampNeg))]) (st' := [.int (M.1 46 ((4 * x2) + x1).toNatClampNeg)]) (M' := M) (P := (True ∧ vp_in ((4 * x2) + x1) 1257)) 4 rfl ⟨trivial, (b2 c1 c2)⟩ ?_
      exact WX.iret rfl rfl (h3 c1 c2)
    · skip
      by_cases c3 : x3 = 1
      · refine WX.tsw (tgt := 72) rfl (by decide) (by rw [c3]; decide) ?_
        refine WX.run (pc' := 75) (L' := [some (.ref 37), some (.int x1), some (.int x2), some (.int x3), some (.int ((4 * x2) + x1)), some (.int (M.1 46 (16 + ((4 * x2) + x1)).toNatClampNeg))]) (st' := [.int ((4 * x2) + x1), .ref 37]) (M' := M) (P := True) 2 rfl trivial ?_
        refine WX.callV (ca := mi_M_isLid) (n := 1) (d' := 1) (st := []) (As := [.int ((4 * x2) + x1)]) (q := 37) rfl lk_7_134 ck_M_isLid cv_M_isLid rfl (by decide) rfl (Nat.le_of_ble_eq_true rfl) ⟨by decide, rfl, by decide⟩ (by intro w hw; simp only [List.mem_cons, List.not_mem_nil, or_false] at hw; rcases hw with rfl <;> rfl) (Nat.le_of_ble_eq_true rfl) ?_
        refine wx_M_isLid_37 M ((4 * x2) + x1) ?_
        show WX mi_M_cell 3 Q 78 [some (.ref 37), some (.int x1), some (.int x2), some (.int x3), some (.int ((4 * x2) + x1)), some (.int (M.1 46 (16 + ((4 * x2) + x1)).toNatClampNeg))] [.int (z_M_isLid_37 M ((4 * x2) + x1))] M
        refine WX.if_eq (off := 7) (tgt := 85) rfl rfl (fun c4 => ?_) (fun c4 => ?_)
        · refine WX.run (pc' := 88) (L' := [some (.ref 37), some (.int x1), some (.int x2), some (.int x3), some (.int ((4 * x2) + x1)), some (.int (M.1 46 (16 + ((4 * x2) + x1)).toNatClampNeg))]) (st' := [.int ((4 * x2) + x1), .ref 37]) (M' := M) (P := True) 2 rfl trivial ?_
          refine WX.callV (ca := mi_M_isDrain) (n := 1) (d' := 1) (st := []) (As := [.int ((4 * x2) + x1)]) (q := 37) rfl lk_7_138 ck_M_isDrain cv_M_isDrain rfl (by decide) rfl (Nat.le_of_ble_eq_true rfl) ⟨by decide, rfl, by decide⟩ (by intro w hw; simp only [List.mem_cons, List.not_mem_nil, or_false] at hw; rcases hw with rfl <;> rfl) (Nat.le_of_ble_eq_true rfl) ?_
          refine wx_M_isDrain_37 M ((4 * x2) + x1) ?_
          show WX mi_M_cell 3 Q 91 [some (.ref 37), some (.int x1), some (.int x2), some (.int x3), some (.int ((4 * x2) + x1)), some (.int (M.1 46 (16 + ((4 * x2) + x1)).toNatClampNeg))] [.int (z_M_isDrain_37 M ((4 * x2) + x1))] M
          refine WX.if_eq (off := 7) (tgt := 98) rfl rfl (fun c5 => ?_) (fun c5 => ?_)
          · refine WX.run (pc' := 99) (L' := [some (.ref 37), some (.int x1), some (.int x2), some (.int x3), some (.int ((4 * x2) + x1)), some (.int (M.1 46 (16 + ((4 * x2) + x1)).toNatClampNeg))]) (st' := [.int 0]) (M' := M) (P := True) 1 rfl trivial ?_
            exact WX.iret rfl rfl (h4 c1 c2 c3 c4 c5)
          · refine WX.run (pc' := 99) (L' := [some (.ref 37), some (.int x1), some (.int x2), some (.int x3), some (.int ((4 * x2) + x1)), some (.int (M.1 46 (16 + ((4 * x2) + x1)).toNatClampNeg))]) (st' := [.int 2]) (M' := M) (P := True) 2 rfl trivial ?_
            exact WX.iret rfl rfl (h5 c1 c2 c3 c4 c5)
        · refine WX.run (pc' := 99) (L' := [some (.ref 37), some (.int x1), some (.int x2), some (.int x3), some (.int ((4 * x2) + x1)), some (.int (M.1 46 (16 + ((4 * x2) + x1)).toNatClampNeg))]) (st' := [.int 1]) (M' := M) (P := True) 2 rfl trivial ?_
          exact WX.iret rfl rfl (h6 c1 c2 c3 c4)
      · skip
        by_cases c6 : x3 = 2
        · refine WX.tsw (tgt := 100) rfl (by decide) (by rw [c6]; decide) ?_
          refine WX.run (pc' := 104) (L' := [some (.ref 37), some (.int x1), some (.int x2), some (.int x3), some (.int ((4 * x2) + x1)), some (.int (M.1 46 (16 + ((4 * x2) + x1)).toNatClampNeg))]) (st' := [.int (-9), .int (M.1 46 (16 + ((4 * x2) + x1)).toNatClampNeg)]) (M' := M) (P := True) 2 rfl trivial ?_
          refine WX.icmp_ne (off := 8) (tgt := 112) rfl rfl (fun c7 => ?_) (fun c7 => ?_)
          · refine WX.run (pc' := 117) (L' := [some (.ref 37), some (.int x1), some (.int x2), some (.int x3), some (.int ((4 * x2) + x1)), some (.int (M.1 46 (16 + ((4 * x2) + x1)).toNatClampNeg))]) (st' := [.int ((M.1 46 (16 + ((4 * x2) + x1)).toNatClampNeg) / 16)]) (M' := M) (P := (True ∧ ¬ 16 = 0)) 3 rfl ⟨trivial, (by decide)⟩ ?_
            exact WX.iret rfl rfl (h7 c1 c2 c3 c6 c7)
          · refine WX.run (pc' := 117) (L' := [some (.ref 37), some (.int x1), some (.int x2), some (.int x3), some (.int ((4 * x2) + x1)), some (.int (M.1 46 (16 + ((4 * x2) + x1)).toNatClampNeg))]) (st' := [.int (-9)]) (M' := M) (P := True) 2 rfl trivial ?_
            exact WX.iret rfl rfl (h8 c1 c2 c3 c6 c7)
        · skip
          by_cases c8 : x3 = 3
          · refine WX.tsw (tgt := 118) rfl (by decide) (by rw [c8]; decide) ?_
            refine WX.run (pc' := 122) (L' := [some (.ref 37), some (.int x1), some (.int x2), some (.int x3), some (.int ((4 * x2) + x1)), some (.int (M.1 46 (16 + ((4 * x2) + x1)).toNatClampNeg))]) (st' := [.int (-9), .int (M.1 46 (16 + ((4 * x2) + x1)).toNatClampNeg)]) (M' := M) (P := True) 2 rfl trivial ?_
            refine WX.icmp_ne (off := 8) (tgt := 130) rfl rfl (fun c9 => ?_) (fun c9 => ?_)
            · refine WX.run (pc' := 135) (L' := [some (.ref 37), some (.int x1), some (.int x2), some (.int x3), some (.int ((4 * x2) + x1)), some (.int (M.1 46 (16 + ((4 * x2) + x1)).toNatClampNeg))]) (st' := [.int (rem (M.1 46 (16 + ((4 * x2) + x1)).toNatClampNeg) 16)]) (M' := M) (P := (True ∧ ¬ 16 = 0)) 3 rfl ⟨trivial, (by decide)⟩ ?_
              exact WX.iret rfl rfl (h9 c1 c2 c3 c6 c8 c9)
            · refine WX.run (pc' := 135) (L' := [some (.ref 37), some (.int x1), some (.int x2), some (.int x3), some (.int ((4 * x2) + x1)), some (.int (M.1 46 (16 + ((4 * x2) + x1)).toNatClampNeg))]) (st' := [.int (-9)]) (M' := M) (P := True) 2 rfl trivial ?_
              exact WX.iret rfl rfl (h10 c1 c2 c3 c6 c8 c9)
          · skip
            by_cases c10 : x3 = 4
            · refine WX.tsw (tgt := 136) rfl (by decide) (by rw [c10]; decide) ?_
              refine WX.run (pc' := 148) (L' := [some (.ref 37), some (.int x1), some (.int x2), some (.int x3), some (.int ((4 * x2) + x1)), some (.int (M.1 46 (16 + ((4 * x2) + x1)).toNatClampNeg))]) (st' := [.int ((shr (M.1 46 36) ((4 * x2) + x1)) &&& 1)]) (M' := M) (P := (True ∧ vp_in 36 1257)) 8 rfl ⟨trivial, (vp_lit rfl)⟩ ?_
              exact WX.iret rfl rfl (h11 c1 c2 c3 c6 c8 c10)
            · skip
              refine WX.tsw (tgt := 149) rfl (by decide) (by
                    by_cases hr : (x3).toInt < 0 ∨ 4 < (x3).toInt
                    · unfold tswo; rw [if_pos hr]; rfl
                    · have hh : (x3).toInt = 0 ∨ (x3).toInt = 1 ∨ (x3).toInt = 2 ∨ (x3).toInt = 3 ∨ (x3).toInt = 4 := by omega
                      rcases hh with hh | hh | hh | hh | hh
                      · exact absurd hh (i32_ne c2 (by decide))
                      · exact absurd hh (i32_ne c3 (by decide))
                      · exact absurd hh (i32_ne c6 (by decide))
                      · exact absurd hh (i32_ne c8 (by decide))
                      · exact absurd hh (i32_ne c10 (by decide))) ?_
              refine WX.run (pc' := 150) (L' := [some (.ref 37), some (.int x1), some (.int x2), some (.int x3), some (.int ((4 * x2) + x1)), some (.int (M.1 46 (16 + ((4 * x2) + x1)).toNatClampNeg))]) (st' := [.int (-1)]) (M' := M) (P := True) 1 rfl trivial ?_
              exact WX.iret rfl rfl (h12 c1 c2 c3 c6 c8 c10)
  · refine WX.run (pc' := 10) (L' := [some (.ref 37), some (.int x1), some (.int x2), some (.int x3), none, none]) (st' := [.int (-1)]) (M' := M) (P := True) 1 rfl trivial ?_
    exact WX.iret rfl rfl (h13 c1)
def z_M_cell_37 (M : Mem) (x1 x2 x3 : Int32) : Int32 := (if (z_M_isCell_37 M x1 x2) = 0 then (-1) else (if x3 = 0 then (M.1 46 ((4 * x2) + x1).toNatClampNeg) else (if x3 = 1 then (if (z_M_isLid_37 M ((4 * x2) + x1)) = 0 then (if (z_M_isDrain_37 M ((4 * x2) + x1)) = 0 then 0 else 2) else 1) else (if x3 = 2 then (if (M.1 46 (16 + ((4 * x2) + x1)).toNatClampNeg) = (-9) then (-9) else ((M.1 46 (16 + ((4 * x2) + x1)).toNatClampNeg) / 16)) else (if x3 = 3 then (if (M.1 46 (16 + ((4 * x2) + x1)).toNatClampNeg) = (-9) then (-9) else (rem (M.1 46 (16 + ((4 * x2) + x1)).toNatClampNeg) 16)) else (if x3 = 4 then ((shr (M.1 46 36) ((4 * x2) + x1)) &&& 1) else (-1)))))))
theorem wx_M_cell_37 {Q : Option Value → Mem → Prop} (M : Mem) (x1 x2 x3 : Int32)
    (b1 : ¬ (z_M_isCell_37 M x1 x2) = 0 → vp_in (16 + ((4 * x2) + x1)) 1257)
    (b2 : ¬ (z_M_isCell_37 M x1 x2) = 0 → x3 = 0 → vp_in ((4 * x2) + x1) 1257)
    (h : Q (some (.int (z_M_cell_37 M x1 x2 x3))) M) :
    WX mi_M_cell 3 Q 0 [some (.ref 37), some (.int x1), some (.int x2), some (.int x3), none, none] [] M := by
  refine sg_M_cell_37_0 M x1 x2 x3
    b1
    b2
    (fun c1 c2 => by
      unfold z_M_cell_37 at h
      rw [if_neg c1, if_pos c2] at h
      exact h)
    (fun c1 c2 c3 c4 c5 => by
      unfold z_M_cell_37 at h
      rw [if_neg c1, if_neg c2, if_pos c3, if_pos c4, if_pos c5] at h
      exact h)
    (fun c1 c2 c3 c4 c5 => by
      unfold z_M_cell_37 at h
      rw [if_neg c1, if_neg c2, if_pos c3, if_pos c4, if_neg c5] at h
      exact h)
    (fun c1 c2 c3 c4 => by
      unfold z_M_cell_37 at h
      rw [if_neg c1, if_neg c2, if_pos c3, if_neg c4] at h
      exact h)
    (fun c1 c2 c3 c4 c5 => by
      unfold z_M_cell_37 at h
      rw [if_neg c1, if_neg c2, if_neg c3, if_pos c4, if_neg c5] at h
      exact h)
    (fun c1 c2 c3 c4 c5 => by
      unfold z_M_cell_37 at h
      rw [if_neg c1, if_neg c2, if_neg c3, if_pos c4, if_pos c5] at h
      exact h)
    (fun c1 c2 c3 c4 c5 c6 => by
      unfold z_M_cell_37 at h
      rw [if_neg c1, if_neg c2, if_neg c3, if_neg c4, if_pos c5, if_neg c6] at h
      exact h)
    (fun c1 c2 c3 c4 c5 c6 => by
      unfold z_M_cell_37 at h
      rw [if_neg c1, if_neg c2, if_neg c3, if_neg c4, if_pos c5, if_pos c6] at h
      exact h)
    (fun c1 c2 c3 c4 c5 c6 => by
      unfold z_M_cell_37 at h
      rw [if_neg c1, if_neg c2, if_neg c3, if_neg c4, if_neg c5, if_pos c6] at h
      exact h)
    (fun c1 c2 c3 c4 c5 c6 => by
      unfold z_M_cell_37 at h
      rw [if_neg c1, if_neg c2, if_neg c3, if_neg c4, if_neg c5, if_neg c6] at h
      exact h)
    (fun c1 => by
      unfold z_M_cell_37 at h
      rw [if_pos c1] at h
      exact h)
theorem sg_M_lays_37_0 {Q : Option Value → Mem → Prop} (M : Mem) (x1 x2 x3 : Int32)
    (h1 : (z_M_in x1 0 3) = 0 → Q (some (.int (-1))) M)
    (h2 : ¬ (z_M_in x1 0 3) = 0 → ¬ (z_M_isCell_37 M x2 x3) = 0 → WX mi_M_cellsOf 3 (fun rv M' => WX mi_M_lays 5 Q 34 [some (.ref 37), some (.int x1), some (.int x2), some (.int x3), some (.int ((4 * x3) + x2)), none] (rv.toList ++ []) M') 0 [some (.ref 37), some (.int x1), some (.int ((4 * x3) + x2)), none, none, none, none] [] M)
    (h3 : ¬ (z_M_in x1 0 3) = 0 → (z_M_isCell_37 M x2 x3) = 0 → Q (some (.int (-1))) M) :
    WX mi_M_lays 5 Q 0 [some (.ref 37), some (.int x1), some (.int x2), some (.int x3), none, none] [] M := by
  refine WX.run (pc' := 3) (L' := [some (.ref 37), some (.int x1), some (.int x2), some (.int x3), none, none]) (st' := [.int 3, .int 0, .int x1]) (M' := M) (P := True) 3 rfl trivial ?_
  refine WX.callS (ca := mi_M_in) (n := 3) (d' := 1) (st := []) (As := [.int x1, .int 0, .int 3]) rfl lk_7_72 ck_M_in cs_M_in rfl (by decide) rfl (Nat.le_of_ble_eq_true rfl) (by intro w hw; simp only [List.mem_cons, List.not_mem_nil, or_false] at hw; rcases hw with rfl | rfl | rfl <;> rfl) (Nat.le_of_ble_eq_true rfl) ?_
  refine wx_M_in M x1 0 3 ?_
  show WX mi_M_lays 5 Q 6 [some (.ref 37), some (.int x1), some (.int x2), some (.int x3), none, none] [.int (z_M_in x1 0 3)] M
  refine WX.if_eq (off := 12) (tgt := 18) rfl rfl (fun c1 => ?_) (fun c1 => ?_)
  · refine WX.run (pc' := 19) (L' := [some (.ref 37), some (.int x1), some (.int x2), some (.int x3), none, none]) (st' := [.int (-1)]) (M' := M) (P := True) 1 rfl trivial ?_
    exact WX.iret rfl rfl (h1 c1)
  · refine WX.run (pc' := 12) (L' := [some (.ref 37), some (.int x1), some (.int x2), some (.int x3), none, none]) (st' := [.int x3, .int x2, .ref 37]) (M' := M) (P := True) 3 rfl trivial ?_
    refine WX.callV (ca := mi_M_isCell) (n := 2) (d' := 2) (st := []) (As := [.int x2, .int x3]) (q := 37) rfl lk_7_131 ck_M_isCell cv_M_isCell rfl (by decide) rfl (Nat.le_of_ble_eq_true rfl) ⟨by decide, rfl, by decide⟩ (by intro w hw; simp only [List.mem_cons, List.not_mem_nil, or_false] at hw; rcases hw with rfl | rfl <;> rfl) (Nat.le_of_ble_eq_true rfl) ?_
    refine wx_M_isCell_37 M x2 x3 ?_
    show WX mi_M_lays 5 Q 15 [some (.ref 37), some (.int x1), some (.int x2), some (.int x3), none, none] [.int (z_M_isCell_37 M x2 x3)] M
    refine WX.if_ne (off := 5) (tgt := 20) rfl rfl (fun c2 => ?_) (fun c2 => ?_)
    · refine WX.run (pc' := 31) (L' := [some (.ref 37), some (.int x1), some (.int x2), some (.int x3), some (.int ((4 * x3) + x2)), none]) (st' := [.int ((4 * x3) + x2), .int x1, .ref 37]) (M' := M) (P := True) 9 rfl trivial ?_
      refine WX.callV (ca := mi_M_cellsOf) (n := 2) (d' := 3) (st := []) (As := [.int x1, .int ((4 * x3) + x2)]) (q := 37) rfl lk_7_151 ck_M_cellsOf cv_M_cellsOf rfl (by decide) rfl (Nat.le_of_ble_eq_true rfl) ⟨by decide, rfl, by decide⟩ (by intro w hw; simp only [List.mem_cons, List.not_mem_nil, or_false] at hw; rcases hw with rfl | rfl <;> rfl) (Nat.le_of_ble_eq_true rfl) ?_
      exact (h2 c1 c2)
    · refine WX.run (pc' := 19) (L' := [some (.ref 37), some (.int x1), some (.int x2), some (.int x3), none, none]) (st' := [.int (-1)]) (M' := M) (P := True) 1 rfl trivial ?_
      exact WX.iret rfl rfl (h3 c1 c2)
theorem sg_M_lays_37_34 {Q : Option Value → Mem → Prop} (M : Mem) (x1 x2 x3 x4 r : Int32)
    (b1 : vp_in (32 + x1) 1257)
    (h2 : (M.1 46 (32 + x1).toNatClampNeg) = 0 → Q (some (.int (-2))) M)
    (h3 : ¬ (M.1 46 (32 + x1).toNatClampNeg) = 0 → r = 0 → Q (some (.int (-2))) M)
    (h4 : ¬ (M.1 46 (32 + x1).toNatClampNeg) = 0 → ¬ r = 0 → WX mi_M_freeBy 4 (fun rv M' => WX mi_M_lays 5 Q 65 [some (.ref 37), some (.int x1), some (.int x2), some (.int x3), some (.int x4), some (.int r)] (rv.toList ++ [.int r]) M') 0 [some (.ref 37), some (.ref 46), some (.int 16), none, none] [] M) :
    WX mi_M_lays 5 Q 34 [some (.ref 37), some (.int x1), some (.int x2), some (.int x3), some (.int x4), none] [.int r] M := by
  refine WX.run (pc' := 45) (L' := [some (.ref 37), some (.int x1), some (.int x2), some (.int x3), some (.int x4), some (.int r)]) (st' := [.int (M.1 46 (32 + x1).toNatClampNeg)]) (M' := M) (P := (True ∧ vp_in (32 + x1) 1257)) 7 rfl ⟨trivial, b1⟩ ?_
  refine WX.if_eq (off := 26) (tgt := 71) rfl rfl (fun c1 => ?_) (fun c1 => ?_)
  · refine WX.run (pc' := 73) (L' := [some (.ref 37), some (.int x1), some (.int x2), some (.int x3), some (.int x4), some (.int r)]) (st' := [.int (-2)]) (M' := M) (P := True) 1 rfl trivial ?_
    exact WX.iret rfl rfl (h2 c1)
  · refine WX.run (pc' := 50) (L' := [some (.ref 37), some (.int x1), some (.int x2), some (.int x3), some (.int x4), some (.int r)]) (st' := [.int r]) (M' := M) (P := True) 1 rfl trivial ?_
    refine WX.if_eq (off := 21) (tgt := 71) rfl rfl (fun c2 => ?_) (fun c2 => ?_)
    · refine WX.run (pc' := 73) (L' := [some (.ref 37), some (.int x1), some (.int x2), some (.int x3), some (.int x4), some (.int r)]) (st' := [.int (-2)]) (M' := M) (P := True) 1 rfl trivial ?_
      exact WX.iret rfl rfl (h3 c1 c2)
    · refine WX.run (pc' := 62) (L' := [some (.ref 37), some (.int x1), some (.int x2), some (.int x3), some (.int x4), some (.int r)]) (st' := [.int 16, .ref 46, .ref 37, .int r]) (M' := M) (P := True) 5 rfl trivial ?_
      refine WX.callV (ca := mi_M_freeBy) (n := 2) (d' := 4) (st := [.int r]) (As := [.ref 46, .int 16]) (q := 37) rfl lk_7_154 ck_M_freeBy cv_M_freeBy rfl (by decide) rfl (Nat.le_of_ble_eq_true rfl) ⟨by decide, rfl, by decide⟩ (by intro w hw; simp only [List.mem_cons, List.not_mem_nil, or_false] at hw; rcases hw with rfl | rfl <;> rfl) (Nat.le_of_ble_eq_true rfl) ?_
      exact (h4 c1 c2)
theorem sg_M_lays_37_65 {Q : Option Value → Mem → Prop} (M : Mem) (x1 x2 x3 x4 x5 r s1 : Int32)
    (h1 : (s1 &&& (r ^^^ (-1))) = 0 → WX mi_M_know 1 (fun rv M' => WX mi_M_lays 5 Q 78 [some (.ref 37), some (.int x1), some (.int x2), some (.int x3), some (.int x4), some (.int x5)] (rv.toList ++ []) M') 0 [some (.ref 37), none] [] M)
    (h2 : ¬ (s1 &&& (r ^^^ (-1))) = 0 → Q (some (.int (-2))) M) :
    WX mi_M_lays 5 Q 65 [some (.ref 37), some (.int x1), some (.int x2), some (.int x3), some (.int x4), some (.int x5)] [.int r, .int s1] M := by
  refine WX.run (pc' := 68) (L' := [some (.ref 37), some (.int x1), some (.int x2), some (.int x3), some (.int x4), some (.int x5)]) (st' := [.int (s1 &&& (r ^^^ (-1)))]) (M' := M) (P := True) 3 rfl trivial ?_
  refine WX.if_eq (off := 6) (tgt := 74) rfl rfl (fun c1 => ?_) (fun c1 => ?_)
  · refine WX.run (pc' := 75) (L' := [some (.ref 37), some (.int x1), some (.int x2), some (.int x3), some (.int x4), some (.int x5)]) (st' := [.ref 37]) (M' := M) (P := True) 1 rfl trivial ?_
    refine WX.callV (ca := mi_M_know) (n := 0) (d' := 1) (st := []) (As := []) (q := 37) rfl lk_7_158 ck_M_know cv_M_know rfl (by decide) rfl (Nat.le_of_ble_eq_true rfl) ⟨by decide, rfl, by decide⟩ (fun w hw => absurd hw List.not_mem_nil) (Nat.le_of_ble_eq_true rfl) ?_
    exact (h1 c1)
  · refine WX.run (pc' := 73) (L' := [some (.ref 37), some (.int x1), some (.int x2), some (.int x3), some (.int x4), some (.int x5)]) (st' := [.int (-2)]) (M' := M) (P := True) 1 rfl trivial ?_
    exact WX.iret rfl rfl (h2 c1)
theorem sg_M_lays_37_78 {Q : Option Value → Mem → Prop} (M : Mem) (x1 x2 x3 x4 x5 : Int32)
    (h1 : WX mi_M_put 1 (fun rv M' => WX mi_M_lays 5 Q 96 [some (.ref 37), some (.int x1), some (.int x2), some (.int x3), some (.int x4), some (.int x5)] (rv.toList ++ []) M') 0 [some (.ref 46), some (.int 16), some (.int x5), some (.int ((16 * x1) + x4)), none] [] M) :
    WX mi_M_lays 5 Q 78 [some (.ref 37), some (.int x1), some (.int x2), some (.int x3), some (.int x4), some (.int x5)] [] M := by
  refine WX.run (pc' := 93) (L' := [some (.ref 37), some (.int x1), some (.int x2), some (.int x3), some (.int x4), some (.int x5)]) (st' := [.int ((16 * x1) + x4), .int x5, .int 16, .ref 46]) (M' := M) (P := True) 9 rfl trivial ?_
  refine WX.callS (ca := mi_M_put) (n := 4) (d' := 1) (st := []) (As := [.ref 46, .int 16, .int x5, .int ((16 * x1) + x4)]) rfl lk_7_161 ck_M_put cs_M_put rfl (by decide) rfl (Nat.le_of_ble_eq_true rfl) (by intro w hw; simp only [List.mem_cons, List.not_mem_nil, or_false] at hw; rcases hw with rfl | rfl | rfl | rfl <;> rfl) (Nat.le_of_ble_eq_true rfl) ?_
  exact h1
theorem sg_M_lays_37_96 {Q : Option Value → Mem → Prop} (M : Mem) (x1 x2 x3 x4 x5 : Int32)
    (b1 : vp_in (32 + x1) 1257)
    (h2 : Q (some (.int ((wr (wr M 46 36 ((M.1 46 36) ||| x5)) 46 (32 + x1).toNatClampNeg (((wr M 46 36 ((M.1 46 36) ||| x5)).1 46 (32 + x1).toNatClampNeg) - 1)).1 46 (32 + x1).toNatClampNeg))) (wr (wr M 46 36 ((M.1 46 36) ||| x5)) 46 (32 + x1).toNatClampNeg (((wr M 46 36 ((M.1 46 36) ||| x5)).1 46 (32 + x1).toNatClampNeg) - 1))) :
    WX mi_M_lays 5 Q 96 [some (.ref 37), some (.int x1), some (.int x2), some (.int x3), some (.int x4), some (.int x5)] [] M := by
  refine WX.run (pc' := 130) (L' := [some (.ref 37), some (.int x1), some (.int x2), some (.int x3), some (.int x4), some (.int x5)]) (st' := [.int ((wr (wr M 46 36 ((M.1 46 36) ||| x5)) 46 (32 + x1).toNatClampNeg (((wr M 46 36 ((M.1 46 36) ||| x5)).1 46 (32 + x1).toNatClampNeg) - 1)).1 46 (32 + x1).toNatClampNeg)]) (M' := (wr (wr M 46 36 ((M.1 46 36) ||| x5)) 46 (32 + x1).toNatClampNeg (((wr M 46 36 ((M.1 46 36) ||| x5)).1 46 (32 + x1).toNatClampNeg) - 1))) (P := (((((True ∧ vp_in 36 1257) ∧ vp_in 36 1257) ∧ vp_in (32 + x1) 1257) ∧ vp_in (32 + x1) 1257) ∧ vp_in (32 + x1) 1257)) 24 rfl ⟨⟨⟨⟨⟨trivial, (vp_lit rfl)⟩, (vp_lit rfl)⟩, b1⟩, b1⟩, b1⟩ ?_
  exact WX.iret rfl rfl h2
theorem sg_M_lifts_37_0 {Q : Option Value → Mem → Prop} (M : Mem) (x1 x2 : Int32)
    (b1 : ¬ (z_M_isCell_37 M x1 x2) = 0 → vp_in ((16 + (4 * x2)) + x1) 1257)
    (h2 : ¬ (z_M_isCell_37 M x1 x2) = 0 → ¬ (M.1 46 ((16 + (4 * x2)) + x1).toNatClampNeg) = (-9) → WX mi_M_know 1 (fun rv M' => WX mi_M_lifts 4 Q 38 [some (.ref 37), some (.int x1), some (.int x2), some (.int (M.1 46 ((16 + (4 * x2)) + x1).toNatClampNeg)), none, none] (rv.toList ++ []) M') 0 [some (.ref 37), none] [] M)
    (h3 : ¬ (z_M_isCell_37 M x1 x2) = 0 → (M.1 46 ((16 + (4 * x2)) + x1).toNatClampNeg) = (-9) → Q (some (.int (-2))) M)
    (h4 : (z_M_isCell_37 M x1 x2) = 0 → Q (some (.int (-1))) M) :
    WX mi_M_lifts 4 Q 0 [some (.ref 37), some (.int x1), some (.int x2), none, none, none] [] M := by
  refine WX.run (pc' := 3) (L' := [some (.ref 37), some (.int x1), some (.int x2), none, none, none]) (st' := [.int x2, .int x1, .ref 37]) (M' := M) (P := True) 3 rfl trivial ?_
  refine WX.callV (ca := mi_M_isCell) (n := 2) (d' := 2) (st := []) (As := [.int x1, .int x2]) (q := 37) rfl lk_7_131 ck_M_isCell cv_M_isCell rfl (by decide) rfl (Nat.le_of_ble_eq_true rfl) ⟨by decide, rfl, by decide⟩ (by intro w hw; simp only [List.mem_cons, List.not_mem_nil, or_false] at hw; rcases hw with rfl | rfl <;> rfl) (Nat.le_of_ble_eq_true rfl) ?_
  refine wx_M_isCell_37 M x1 x2 ?_
  show WX mi_M_lifts 4 Q 6 [some (.ref 37), some (.int x1), some (.int x2), none, none, none] [.int (z_M_isCell_37 M x1 x2)] M
  refine WX.if_ne (off := 5) (tgt := 11) rfl rfl (fun c1 => ?_) (fun c1 => ?_)
  · refine WX.run (pc' := 28) (L' := [some (.ref 37), some (.int x1), some (.int x2), some (.int (M.1 46 ((16 + (4 * x2)) + x1).toNatClampNeg)), none, none]) (st' := [.int (-9), .int (M.1 46 ((16 + (4 * x2)) + x1).toNatClampNeg)]) (M' := M) (P := (True ∧ vp_in ((16 + (4 * x2)) + x1) 1257)) 13 rfl ⟨trivial, (b1 c1)⟩ ?_
    refine WX.icmp_ne (off := 6) (tgt := 34) rfl rfl (fun c2 => ?_) (fun c2 => ?_)
    · refine WX.run (pc' := 35) (L' := [some (.ref 37), some (.int x1), some (.int x2), some (.int (M.1 46 ((16 + (4 * x2)) + x1).toNatClampNeg)), none, none]) (st' := [.ref 37]) (M' := M) (P := True) 1 rfl trivial ?_
      refine WX.callV (ca := mi_M_know) (n := 0) (d' := 1) (st := []) (As := []) (q := 37) rfl lk_7_158 ck_M_know cv_M_know rfl (by decide) rfl (Nat.le_of_ble_eq_true rfl) ⟨by decide, rfl, by decide⟩ (fun w hw => absurd hw List.not_mem_nil) (Nat.le_of_ble_eq_true rfl) ?_
      exact (h2 c1 c2)
    · refine WX.run (pc' := 33) (L' := [some (.ref 37), some (.int x1), some (.int x2), some (.int (M.1 46 ((16 + (4 * x2)) + x1).toNatClampNeg)), none, none]) (st' := [.int (-2)]) (M' := M) (P := True) 1 rfl trivial ?_
      exact WX.iret rfl rfl (h3 c1 c2)
  · refine WX.run (pc' := 10) (L' := [some (.ref 37), some (.int x1), some (.int x2), none, none, none]) (st' := [.int (-1)]) (M' := M) (P := True) 1 rfl trivial ?_
    exact WX.iret rfl rfl (h4 c1)
theorem sg_M_lifts_37_38 {Q : Option Value → Mem → Prop} (M : Mem) (x1 x2 x3 : Int32)
    (h1 : WX mi_M_cellsOf 3 (fun rv M' => WX mi_M_lifts 4 Q 54 [some (.ref 37), some (.int x1), some (.int x2), some (.int x3), some (.int (x3 / 16)), none] (rv.toList ++ []) M') 0 [some (.ref 37), some (.int (x3 / 16)), some (.int (rem x3 16)), none, none, none, none] [] M) :
    WX mi_M_lifts 4 Q 38 [some (.ref 37), some (.int x1), some (.int x2), some (.int x3), none, none] [] M := by
  refine WX.run (pc' := 51) (L' := [some (.ref 37), some (.int x1), some (.int x2), some (.int x3), some (.int (x3 / 16)), none]) (st' := [.int (rem x3 16), .int (x3 / 16), .ref 37]) (M' := M) (P := ((True ∧ ¬ 16 = 0) ∧ ¬ 16 = 0)) 9 rfl ⟨⟨trivial, (by decide)⟩, (by decide)⟩ ?_
  refine WX.callV (ca := mi_M_cellsOf) (n := 2) (d' := 3) (st := []) (As := [.int (x3 / 16), .int (rem x3 16)]) (q := 37) rfl lk_7_151 ck_M_cellsOf cv_M_cellsOf rfl (by decide) rfl (Nat.le_of_ble_eq_true rfl) ⟨by decide, rfl, by decide⟩ (by intro w hw; simp only [List.mem_cons, List.not_mem_nil, or_false] at hw; rcases hw with rfl | rfl <;> rfl) (Nat.le_of_ble_eq_true rfl) ?_
  exact h1
theorem sg_M_lifts_37_54 {Q : Option Value → Mem → Prop} (M : Mem) (x1 x2 x3 x4 r : Int32)
    (h1 : WX mi_M_put 1 (fun rv M' => WX mi_M_lifts 4 Q 69 [some (.ref 37), some (.int x1), some (.int x2), some (.int x3), some (.int x4), some (.int r)] (rv.toList ++ []) M') 0 [some (.ref 46), some (.int 16), some (.int r), some (.int (-9)), none] [] M) :
    WX mi_M_lifts 4 Q 54 [some (.ref 37), some (.int x1), some (.int x2), some (.int x3), some (.int x4), none] [.int r] M := by
  refine WX.run (pc' := 66) (L' := [some (.ref 37), some (.int x1), some (.int x2), some (.int x3), some (.int x4), some (.int r)]) (st' := [.int (-9), .int r, .int 16, .ref 46]) (M' := M) (P := True) 6 rfl trivial ?_
  refine WX.callS (ca := mi_M_put) (n := 4) (d' := 1) (st := []) (As := [.ref 46, .int 16, .int r, .int (-9)]) rfl lk_7_161 ck_M_put cs_M_put rfl (by decide) rfl (Nat.le_of_ble_eq_true rfl) (by intro w hw; simp only [List.mem_cons, List.not_mem_nil, or_false] at hw; rcases hw with rfl | rfl | rfl | rfl <;> rfl) (Nat.le_of_ble_eq_true rfl) ?_
  exact h1
theorem sg_M_lifts_37_69 {Q : Option Value → Mem → Prop} (M : Mem) (x1 x2 x3 x4 x5 : Int32)
    (b1 : vp_in (32 + x4) 1257)
    (h2 : Q (some (.int x4)) (wr (wr M 46 36 ((M.1 46 36) &&& (x5 ^^^ (-1)))) 46 (32 + x4).toNatClampNeg (((wr M 46 36 ((M.1 46 36) &&& (x5 ^^^ (-1)))).1 46 (32 + x4).toNatClampNeg) + 1))) :
    WX mi_M_lifts 4 Q 69 [some (.ref 37), some (.int x1), some (.int x2), some (.int x3), some (.int x4), some (.int x5)] [] M := by
  refine WX.run (pc' := 99) (L' := [some (.ref 37), some (.int x1), some (.int x2), some (.int x3), some (.int x4), some (.int x5)]) (st' := [.int x4]) (M' := (wr (wr M 46 36 ((M.1 46 36) &&& (x5 ^^^ (-1)))) 46 (32 + x4).toNatClampNeg (((wr M 46 36 ((M.1 46 36) &&& (x5 ^^^ (-1)))).1 46 (32 + x4).toNatClampNeg) + 1))) (P := ((((True ∧ vp_in 36 1257) ∧ vp_in 36 1257) ∧ vp_in (32 + x4) 1257) ∧ vp_in (32 + x4) 1257)) 21 rfl ⟨⟨⟨⟨trivial, (vp_lit rfl)⟩, (vp_lit rfl)⟩, b1⟩, b1⟩ ?_
  exact WX.iret rfl rfl h2
theorem sg_M_raises_37_0 {Q : Option Value → Mem → Prop} (M : Mem) (x1 x2 x3 : Int32)
    (h1 : (z_M_isCell_37 M x1 x2) = 0 → Q (some (.int (-1))) M)
    (b2 : ¬ (z_M_isCell_37 M x1 x2) = 0 → ¬ (z_M_in x3 0 9) = 0 → vp_in ((4 * x2) + x1) 1257)
    (h3 : ¬ (z_M_isCell_37 M x1 x2) = 0 → ¬ (z_M_in x3 0 9) = 0 → ¬ (z_M_isDrain_37 M ((4 * x2) + x1)) = 0 → Q (some (.int (-2))) M)
    (h4 : ¬ (z_M_isCell_37 M x1 x2) = 0 → ¬ (z_M_in x3 0 9) = 0 → (z_M_isDrain_37 M ((4 * x2) + x1)) = 0 → ¬ (M.1 46 ((4 * x2) + x1).toNatClampNeg) = x3 → WX mi_M_know 1 (fun rv M' => WX mi_M_raises 3 Q 59 [some (.ref 37), some (.int x1), some (.int x2), some (.int x3), some (.int ((4 * x2) + x1)), some (.int (M.1 46 ((4 * x2) + x1).toNatClampNeg))] (rv.toList ++ []) M') 0 [some (.ref 37), none] [] M)
    (h5 : ¬ (z_M_isCell_37 M x1 x2) = 0 → ¬ (z_M_in x3 0 9) = 0 → (z_M_isDrain_37 M ((4 * x2) + x1)) = 0 → (M.1 46 ((4 * x2) + x1).toNatClampNeg) = x3 → Q (some (.int (-2))) M)
    (h6 : ¬ (z_M_isCell_37 M x1 x2) = 0 → (z_M_in x3 0 9) = 0 → Q (some (.int (-1))) M) :
    WX mi_M_raises 3 Q 0 [some (.ref 37), some (.int x1), some (.int x2), some (.int x3), none, none] [] M := by
  refine WX.run (pc' := 3) (L' := [some (.ref 37), some (.int x1), some (.int x2), some (.int x3), none, none]) (st' := [.int x2, .int x1, .ref 37]) (M' := M) (P := True) 3 rfl trivial ?_
  refine WX.callV (ca := mi_M_isCell) (n := 2) (d' := 2) (st := []) (As := [.int x1, .int x2]) (q := 37) rfl lk_7_131 ck_M_isCell cv_M_isCell rfl (by decide) rfl (Nat.le_of_ble_eq_true rfl) ⟨by decide, rfl, by decide⟩ (by intro w hw; simp only [List.mem_cons, List.not_mem_nil, or_false] at hw; rcases hw with rfl | rfl <;> rfl) (Nat.le_of_ble_eq_true rfl) ?_
  refine wx_M_isCell_37 M x1 x2 ?_
  show WX mi_M_raises 3 Q 6 [some (.ref 37), some (.int x1), some (.int x2), some (.int x3), none, none] [.int (z_M_isCell_37 M x1 x2)] M
  refine WX.if_eq (off := 13) (tgt := 19) rfl rfl (fun c1 => ?_) (fun c1 => ?_)
  · refine WX.run (pc' := 20) (L' := [some (.ref 37), some (.int x1), some (.int x2), some (.int x3), none, none]) (st' := [.int (-1)]) (M' := M) (P := True) 1 rfl trivial ?_
    exact WX.iret rfl rfl (h1 c1)
  · refine WX.run (pc' := 13) (L' := [some (.ref 37), some (.int x1), some (.int x2), some (.int x3), none, none]) (st' := [.int 9, .int 0, .int x3]) (M' := M) (P := True) 3 rfl trivial ?_
    refine WX.callS (ca := mi_M_in) (n := 3) (d' := 1) (st := []) (As := [.int x3, .int 0, .int 9]) rfl lk_7_72 ck_M_in cs_M_in rfl (by decide) rfl (Nat.le_of_ble_eq_true rfl) (by intro w hw; simp only [List.mem_cons, List.not_mem_nil, or_false] at hw; rcases hw with rfl | rfl | rfl <;> rfl) (Nat.le_of_ble_eq_true rfl) ?_
    refine wx_M_in M x3 0 9 ?_
    show WX mi_M_raises 3 Q 16 [some (.ref 37), some (.int x1), some (.int x2), some (.int x3), none, none] [.int (z_M_in x3 0 9)] M
    refine WX.if_ne (off := 5) (tgt := 21) rfl rfl (fun c2 => ?_) (fun c2 => ?_)
    · refine WX.run (pc' := 40) (L' := [some (.ref 37), some (.int x1), some (.int x2), some (.int x3), some (.int ((4 * x2) + x1)), some (.int (M.1 46 ((4 * x2) + x1).toNatClampNeg))]) (st' := [.int ((4 * x2) + x1), .ref 37]) (M' := M) (P := (True ∧ vp_in ((4 * x2) + x1) 1257)) 13 rfl ⟨trivial, (b2 c1 c2)⟩ ?_
      refine WX.callV (ca := mi_M_isDrain) (n := 1) (d' := 1) (st := []) (As := [.int ((4 * x2) + x1)]) (q := 37) rfl lk_7_138 ck_M_isDrain cv_M_isDrain rfl (by decide) rfl (Nat.le_of_ble_eq_true rfl) ⟨by decide, rfl, by decide⟩ (by intro w hw; simp only [List.mem_cons, List.not_mem_nil, or_false] at hw; rcases hw with rfl <;> rfl) (Nat.le_of_ble_eq_true rfl) ?_
      refine wx_M_isDrain_37 M ((4 * x2) + x1) ?_
      show WX mi_M_raises 3 Q 43 [some (.ref 37), some (.int x1), some (.int x2), some (.int x3), some (.int ((4 * x2) + x1)), some (.int (M.1 46 ((4 * x2) + x1).toNatClampNeg))] [.int (z_M_isDrain_37 M ((4 * x2) + x1))] M
      refine WX.if_ne (off := 9) (tgt := 52) rfl rfl (fun c3 => ?_) (fun c3 => ?_)
      · refine WX.run (pc' := 54) (L' := [some (.ref 37), some (.int x1), some (.int x2), some (.int x3), some (.int ((4 * x2) + x1)), some (.int (M.1 46 ((4 * x2) + x1).toNatClampNeg))]) (st' := [.int (-2)]) (M' := M) (P := True) 1 rfl trivial ?_
        exact WX.iret rfl rfl (h3 c1 c2 c3)
      · refine WX.run (pc' := 49) (L' := [some (.ref 37), some (.int x1), some (.int x2), some (.int x3), some (.int ((4 * x2) + x1)), some (.int (M.1 46 ((4 * x2) + x1).toNatClampNeg))]) (st' := [.int x3, .int (M.1 46 ((4 * x2) + x1).toNatClampNeg)]) (M' := M) (P := True) 2 rfl trivial ?_
        refine WX.icmp_ne (off := 6) (tgt := 55) rfl rfl (fun c4 => ?_) (fun c4 => ?_)
        · refine WX.run (pc' := 56) (L' := [some (.ref 37), some (.int x1), some (.int x2), some (.int x3), some (.int ((4 * x2) + x1)), some (.int (M.1 46 ((4 * x2) + x1).toNatClampNeg))]) (st' := [.ref 37]) (M' := M) (P := True) 1 rfl trivial ?_
          refine WX.callV (ca := mi_M_know) (n := 0) (d' := 1) (st := []) (As := []) (q := 37) rfl lk_7_158 ck_M_know cv_M_know rfl (by decide) rfl (Nat.le_of_ble_eq_true rfl) ⟨by decide, rfl, by decide⟩ (fun w hw => absurd hw List.not_mem_nil) (Nat.le_of_ble_eq_true rfl) ?_
          exact (h4 c1 c2 c3 c4)
        · refine WX.run (pc' := 54) (L' := [some (.ref 37), some (.int x1), some (.int x2), some (.int x3), some (.int ((4 * x2) + x1)), some (.int (M.1 46 ((4 * x2) + x1).toNatClampNeg))]) (st' := [.int (-2)]) (M' := M) (P := True) 1 rfl trivial ?_
          exact WX.iret rfl rfl (h5 c1 c2 c3 c4)
    · refine WX.run (pc' := 20) (L' := [some (.ref 37), some (.int x1), some (.int x2), some (.int x3), none, none]) (st' := [.int (-1)]) (M' := M) (P := True) 1 rfl trivial ?_
      exact WX.iret rfl rfl (h6 c1 c2)
theorem sg_M_raises_37_59 {Q : Option Value → Mem → Prop} (M : Mem) (x1 x2 x3 x4 x5 : Int32)
    (b1 : vp_in x4 1257)
    (h2 : Q (some (.int x5)) (wr M 46 x4.toNatClampNeg x3)) :
    WX mi_M_raises 3 Q 59 [some (.ref 37), some (.int x1), some (.int x2), some (.int x3), some (.int x4), some (.int x5)] [] M := by
  refine WX.run (pc' := 69) (L' := [some (.ref 37), some (.int x1), some (.int x2), some (.int x3), some (.int x4), some (.int x5)]) (st' := [.int x5]) (M' := (wr M 46 x4.toNatClampNeg x3)) (P := (True ∧ vp_in x4 1257)) 6 rfl ⟨trivial, b1⟩ ?_
  exact WX.iret rfl rfl h2
theorem sg_M_day_37_0 {Q : Option Value → Mem → Prop} (M : Mem)
    (h1 : ¬ (M.1 46 37) = 99 → WX mi_M_know 1 (fun rv M' => WX mi_M_day 2 Q 19 [some (.ref 37)] (rv.toList ++ []) M') 0 [some (.ref 37), none] [] M)
    (h2 : (M.1 46 37) = 99 → Q (some (.int (-2))) M) :
    WX mi_M_day 2 Q 0 [some (.ref 37)] [] M := by
  refine WX.run (pc' := 9) (L' := [some (.ref 37)]) (st' := [.int 99, .int (M.1 46 37)]) (M' := M) (P := (True ∧ vp_in 37 1257)) 5 rfl ⟨trivial, (vp_lit rfl)⟩ ?_
  refine WX.icmp_ne (off := 6) (tgt := 15) rfl rfl (fun c1 => ?_) (fun c1 => ?_)
  · refine WX.run (pc' := 16) (L' := [some (.ref 37)]) (st' := [.ref 37]) (M' := M) (P := True) 1 rfl trivial ?_
    refine WX.callV (ca := mi_M_know) (n := 0) (d' := 1) (st := []) (As := []) (q := 37) rfl lk_7_158 ck_M_know cv_M_know rfl (by decide) rfl (Nat.le_of_ble_eq_true rfl) ⟨by decide, rfl, by decide⟩ (fun w hw => absurd hw List.not_mem_nil) (Nat.le_of_ble_eq_true rfl) ?_
    exact (h1 c1)
  · refine WX.run (pc' := 14) (L' := [some (.ref 37)]) (st' := [.int (-2)]) (M' := M) (P := True) 1 rfl trivial ?_
    exact WX.iret rfl rfl (h2 c1)
theorem sg_M_day_37_19 {Q : Option Value → Mem → Prop} (M : Mem)
    (h1 : Q (some (.int ((M.1 46 37) + 1))) (wr (wr M 46 37 ((M.1 46 37) + 1)) 46 36 0)) :
    WX mi_M_day 2 Q 19 [some (.ref 37)] [] M := by
  refine WX.run (pc' := 45) (L' := [some (.ref 37)]) (st' := [.int ((M.1 46 37) + 1)]) (M' := (wr (wr M 46 37 ((M.1 46 37) + 1)) 46 36 0)) (P := ((((True ∧ vp_in 37 1257) ∧ vp_in 37 1257) ∧ vp_in 36 1257) ∧ vp_in 37 1257)) 17 rfl ⟨⟨⟨⟨trivial, (vp_lit rfl)⟩, (vp_lit rfl)⟩, (vp_lit rfl)⟩, (vp_lit rfl)⟩ ?_
  exact WX.iret rfl rfl h1
theorem sg_M_undo_37_0 {Q : Option Value → Mem → Prop} (M : Mem)
    (h1 : ¬ (M.1 46 38) = 0 → WX mi_M_undo 1 Q 26 [some (.ref 37), some (.int 0)] [] (wr M 46 38 ((M.1 46 38) - 1)))
    (h2 : (M.1 46 38) = 0 → Q (some (.int (-2))) M) :
    WX mi_M_undo 1 Q 0 [some (.ref 37), none] [] M := by
  refine WX.run (pc' := 7) (L' := [some (.ref 37), none]) (st' := [.int (M.1 46 38)]) (M' := M) (P := (True ∧ vp_in 38 1257)) 4 rfl ⟨trivial, (vp_lit rfl)⟩ ?_
  refine WX.if_ne (off := 6) (tgt := 13) rfl rfl (fun c1 => ?_) (fun c1 => ?_)
  · refine WX.run (pc' := 26) (L' := [some (.ref 37), some (.int 0)]) (st' := []) (M' := (wr M 46 38 ((M.1 46 38) - 1))) (P := ((True ∧ vp_in 38 1257) ∧ vp_in 38 1257)) 10 rfl ⟨⟨trivial, (vp_lit rfl)⟩, (vp_lit rfl)⟩ ?_
    exact (h1 c1)
  · refine WX.run (pc' := 12) (L' := [some (.ref 37), none]) (st' := [.int (-2)]) (M' := M) (P := True) 1 rfl trivial ?_
    exact WX.iret rfl rfl (h2 c1)
theorem sg_M_undo_37_26 {Q : Option Value → Mem → Prop} (M : Mem) (x1 : Int32)
    (h1 : 38 ≤ x1 → Q (some (.int (M.1 46 38))) M)
    (b2 : ¬ 38 ≤ x1 → vp_in ((39 + (38 * (M.1 46 38))) + x1) 1257)
    (b3 : ¬ 38 ≤ x1 → vp_in x1 1257)
    (h4 : ¬ 38 ≤ x1 → WX mi_M_undo 1 Q 26 [some (.ref 37), some (.int (x1 + 1))] [] (wr M 46 x1.toNatClampNeg (M.1 46 ((39 + (38 * (M.1 46 38))) + x1).toNatClampNeg))) :
    WX mi_M_undo 1 Q 26 [some (.ref 37), some (.int x1)] [] M := by
  refine WX.run (pc' := 29) (L' := [some (.ref 37), some (.int x1)]) (st' := [.int 38, .int x1]) (M' := M) (P := True) 2 rfl trivial ?_
  refine WX.icmp_ge (off := 35) (tgt := 64) rfl rfl (fun c1 => ?_) (fun c1 => ?_)
  · refine WX.run (pc' := 71) (L' := [some (.ref 37), some (.int x1)]) (st' := [.int (M.1 46 38)]) (M' := M) (P := (True ∧ vp_in 38 1257)) 4 rfl ⟨trivial, (vp_lit rfl)⟩ ?_
    exact WX.iret rfl rfl (h1 c1)
  · refine WX.run (pc' := 26) (L' := [some (.ref 37), some (.int (x1 + 1))]) (st' := []) (M' := (wr M 46 x1.toNatClampNeg (M.1 46 ((39 + (38 * (M.1 46 38))) + x1).toNatClampNeg))) (P := (((True ∧ vp_in 38 1257) ∧ vp_in ((39 + (38 * (M.1 46 38))) + x1) 1257) ∧ vp_in x1 1257)) 19 rfl ⟨⟨⟨trivial, (vp_lit rfl)⟩, (b2 c1)⟩, (b3 c1)⟩ ?_
    exact (h4 c1)
theorem sg_M_now_37_0 {Q : Option Value → Mem → Prop} (M : Mem) (x1 : Int32)
    (h1 : x1 = 0 → Q (some (.int (M.1 46 37))) M)
    (h2 : x1 = 1 → WX mi_M_freeBy 4 (fun rv M' => WX mi_M_now 6 Q 66 [some (.ref 37), some (.int x1), some (.int 0), none] (rv.toList ++ []) M') 0 [some (.ref 37), some (.ref 46), some (.int 16), none, none] [] M)
    (h3 : x1 = 2 → WX mi_M_now 6 Q 69 [some (.ref 37), some (.int x1), some (.int 0), some (.int 0)] [] M)
    (h4 : x1 = 3 → WX mi_M_puddles 5 (fun rv M' => WX mi_M_now 6 Q 107 [some (.ref 37), some (.int x1), some (.int 0), none] (rv.toList ++ []) M') 0 [some (.ref 37), some (.ref 46), none, none] [] M)
    (h5 : x1 = 4 → WX mi_M_crosses 4 (fun rv M' => WX mi_M_now 6 Q 118 [some (.ref 37), some (.int x1), some (.int 0), none] (rv.toList ++ []) M') 0 [some (.ref 37), some (.ref 46), some (.int 16), none, none, none] [] M)
    (h6 : x1 = 5 → WX mi_M_seam 4 (fun rv M' => WX mi_M_now 6 Q 123 [some (.ref 37), some (.int x1), some (.int 0), none] (rv.toList ++ []) M') 0 [some (.ref 37), none, none, none, none, none, none, none] [] M)
    (h7 : x1 = 6 → WX mi_M_alike 5 (fun rv M' => WX mi_M_now 6 Q 128 [some (.ref 37), some (.int x1), some (.int 0), none] (rv.toList ++ []) M') 0 [some (.ref 37), none, none, none, none] [] M)
    (h8 : x1 = 7 → Q (some (.int (M.1 46 36))) M)
    (h9 : ¬ x1 = 0 → ¬ x1 = 1 → ¬ x1 = 2 → ¬ x1 = 3 → ¬ x1 = 4 → ¬ x1 = 5 → ¬ x1 = 6 → ¬ x1 = 7 → Q (some (.int (-1))) M) :
    WX mi_M_now 6 Q 0 [some (.ref 37), some (.int x1), none, none] [] M := by
  refine WX.run (pc' := 3) (L' := [some (.ref 37), some (.int x1), some (.int 0), none]) (st' := [.int x1]) (M' := M) (P := True) 3 rfl trivial ?_
  by_cases c1 : x1 = 0
  · refine WX.tsw (tgt := 48) rfl (by decide) (by rw [c1]; decide) ?_
    refine WX.run (pc' := 55) (L' := [some (.ref 37), some (.int x1), some (.int 0), none]) (st' := [.int (M.1 46 37)]) (M' := M) (P := (True ∧ vp_in 37 1257)) 4 rfl ⟨trivial, (vp_lit rfl)⟩ ?_
    exact WX.iret rfl rfl (h1 c1)
  · skip
    by_cases c2 : x1 = 1
    · refine WX.tsw (tgt := 56) rfl (by decide) (by rw [c2]; decide) ?_
      refine WX.run (pc' := 63) (L' := [some (.ref 37), some (.int x1), some (.int 0), none]) (st' := [.int 16, .ref 46, .ref 37]) (M' := M) (P := True) 4 rfl trivial ?_
      refine WX.callV (ca := mi_M_freeBy) (n := 2) (d' := 4) (st := []) (As := [.ref 46, .int 16]) (q := 37) rfl lk_7_154 ck_M_freeBy cv_M_freeBy rfl (by decide) rfl (Nat.le_of_ble_eq_true rfl) ⟨by decide, rfl, by decide⟩ (by intro w hw; simp only [List.mem_cons, List.not_mem_nil, or_false] at hw; rcases hw with rfl | rfl <;> rfl) (Nat.le_of_ble_eq_true rfl) ?_
      exact (h2 c2)
    · skip
      by_cases c3 : x1 = 2
      · refine WX.tsw (tgt := 67) rfl (by decide) (by rw [c3]; decide) ?_
        refine WX.run (pc' := 69) (L' := [some (.ref 37), some (.int x1), some (.int 0), some (.int 0)]) (st' := []) (M' := M) (P := True) 2 rfl trivial ?_
        exact (h3 c3)
      · skip
        by_cases c4 : x1 = 3
        · refine WX.tsw (tgt := 99) rfl (by decide) (by rw [c4]; decide) ?_
          refine WX.run (pc' := 104) (L' := [some (.ref 37), some (.int x1), some (.int 0), none]) (st' := [.ref 46, .ref 37]) (M' := M) (P := True) 3 rfl trivial ?_
          refine WX.callV (ca := mi_M_puddles) (n := 1) (d' := 5) (st := []) (As := [.ref 46]) (q := 37) rfl lk_7_187 ck_M_puddles cv_M_puddles rfl (by decide) rfl (Nat.le_of_ble_eq_true rfl) ⟨by decide, rfl, by decide⟩ (by intro w hw; simp only [List.mem_cons, List.not_mem_nil, or_false] at hw; rcases hw with rfl <;> rfl) (Nat.le_of_ble_eq_true rfl) ?_
          exact (h4 c4)
        · skip
          by_cases c5 : x1 = 4
          · refine WX.tsw (tgt := 108) rfl (by decide) (by rw [c5]; decide) ?_
            refine WX.run (pc' := 115) (L' := [some (.ref 37), some (.int x1), some (.int 0), none]) (st' := [.int 16, .ref 46, .ref 37]) (M' := M) (P := True) 4 rfl trivial ?_
            refine WX.callV (ca := mi_M_crosses) (n := 2) (d' := 4) (st := []) (As := [.ref 46, .int 16]) (q := 37) rfl lk_7_191 ck_M_crosses cv_M_crosses rfl (by decide) rfl (Nat.le_of_ble_eq_true rfl) ⟨by decide, rfl, by decide⟩ (by intro w hw; simp only [List.mem_cons, List.not_mem_nil, or_false] at hw; rcases hw with rfl | rfl <;> rfl) (Nat.le_of_ble_eq_true rfl) ?_
            exact (h5 c5)
          · skip
            by_cases c6 : x1 = 5
            · refine WX.tsw (tgt := 119) rfl (by decide) (by rw [c6]; decide) ?_
              refine WX.run (pc' := 120) (L' := [some (.ref 37), some (.int x1), some (.int 0), none]) (st' := [.ref 37]) (M' := M) (P := True) 1 rfl trivial ?_
              refine WX.callV (ca := mi_M_seam) (n := 0) (d' := 4) (st := []) (As := []) (q := 37) rfl lk_7_194 ck_M_seam cv_M_seam rfl (by decide) rfl (Nat.le_of_ble_eq_true rfl) ⟨by decide, rfl, by decide⟩ (fun w hw => absurd hw List.not_mem_nil) (Nat.le_of_ble_eq_true rfl) ?_
              exact (h6 c6)
            · skip
              by_cases c7 : x1 = 6
              · refine WX.tsw (tgt := 124) rfl (by decide) (by rw [c7]; decide) ?_
                refine WX.run (pc' := 125) (L' := [some (.ref 37), some (.int x1), some (.int 0), none]) (st' := [.ref 37]) (M' := M) (P := True) 1 rfl trivial ?_
                refine WX.callV (ca := mi_M_alike) (n := 0) (d' := 5) (st := []) (As := []) (q := 37) rfl lk_7_197 ck_M_alike cv_M_alike rfl (by decide) rfl (Nat.le_of_ble_eq_true rfl) ⟨by decide, rfl, by decide⟩ (fun w hw => absurd hw List.not_mem_nil) (Nat.le_of_ble_eq_true rfl) ?_
                exact (h7 c7)
              · skip
                by_cases c8 : x1 = 7
                · refine WX.tsw (tgt := 129) rfl (by decide) (by rw [c8]; decide) ?_
                  refine WX.run (pc' := 136) (L' := [some (.ref 37), some (.int x1), some (.int 0), none]) (st' := [.int (M.1 46 36)]) (M' := M) (P := (True ∧ vp_in 36 1257)) 4 rfl ⟨trivial, (vp_lit rfl)⟩ ?_
                  exact WX.iret rfl rfl (h8 c8)
                · skip
                  refine WX.tsw (tgt := 137) rfl (by decide) (by
                        by_cases hr : (x1).toInt < 0 ∨ 7 < (x1).toInt
                        · unfold tswo; rw [if_pos hr]; rfl
                        · have hh : (x1).toInt = 0 ∨ (x1).toInt = 1 ∨ (x1).toInt = 2 ∨ (x1).toInt = 3 ∨ (x1).toInt = 4 ∨ (x1).toInt = 5 ∨ (x1).toInt = 6 ∨ (x1).toInt = 7 := by omega
                          rcases hh with hh | hh | hh | hh | hh | hh | hh | hh
                          · exact absurd hh (i32_ne c1 (by decide))
                          · exact absurd hh (i32_ne c2 (by decide))
                          · exact absurd hh (i32_ne c3 (by decide))
                          · exact absurd hh (i32_ne c4 (by decide))
                          · exact absurd hh (i32_ne c5 (by decide))
                          · exact absurd hh (i32_ne c6 (by decide))
                          · exact absurd hh (i32_ne c7 (by decide))
                          · exact absurd hh (i32_ne c8 (by decide))) ?_
                  refine WX.run (pc' := 138) (L' := [some (.ref 37), some (.int x1), some (.int 0), none]) (st' := [.int (-1)]) (M' := M) (P := True) 1 rfl trivial ?_
                  exact WX.iret rfl rfl (h9 c1 c2 c3 c4 c5 c6 c7 c8)
theorem sg_M_now_37_66 {Q : Option Value → Mem → Prop} (M : Mem) (x1 x2 r : Int32)
    (h1 : Q (some (.int r)) M) :
    WX mi_M_now 6 Q 66 [some (.ref 37), some (.int x1), some (.int x2), none] [.int r] M := by
  exact WX.iret rfl rfl h1
theorem sg_M_now_37_69 {Q : Option Value → Mem → Prop} (M : Mem) (x1 x2 x3 : Int32)
    (h1 : 16 ≤ x3 → Q (some (.int x2)) M)
    (b2 : ¬ 16 ≤ x3 → ((z_M_isCell_37 M (rem x3 4) (x3 / 4)) = 0 ∨ (z_M_isCell_37 M (rem x3 4) (x3 / 4)) = 1))
    (b3 : ¬ 16 ≤ x3 → ¬ (z_M_isThere_37 M x3) = 0 → vp_in (16 + x3) 1257)
    (b4 : ¬ 16 ≤ x3 → ¬ (z_M_isThere_37 M x3) = 0 → ¬ (M.1 46 (16 + x3).toNatClampNeg) = (-9) → vp_in (16 + x3) 1257)
    (h5 : ¬ 16 ≤ x3 → (z_M_begins_37 M x3) = 0 → WX mi_M_now 6 Q 69 [some (.ref 37), some (.int x1), some (.int (x2 + 0)), some (.int (x3 + 1))] [] M)
    (h6 : ¬ 16 ≤ x3 → ¬ (z_M_begins_37 M x3) = 0 → WX mi_M_now 6 Q 69 [some (.ref 37), some (.int x1), some (.int (x2 + 1)), some (.int (x3 + 1))] [] M) :
    WX mi_M_now 6 Q 69 [some (.ref 37), some (.int x1), some (.int x2), some (.int x3)] [] M := by
  refine WX.run (pc' := 72) (L' := [some (.ref 37), some (.int x1), some (.int x2), some (.int x3)]) (st' := [.int 16, .int x3]) (M' := M) (P := True) 2 rfl trivial ?_
  refine WX.icmp_ge (off := 25) (tgt := 97) rfl rfl (fun c1 => ?_) (fun c1 => ?_)
  · refine WX.run (pc' := 98) (L' := [some (.ref 37), some (.int x1), some (.int x2), some (.int x3)]) (st' := [.int x2]) (M' := M) (P := True) 1 rfl trivial ?_
    exact WX.iret rfl rfl (h1 c1)
  · refine WX.run (pc' := 78) (L' := [some (.ref 37), some (.int x1), some (.int x2), some (.int x3)]) (st' := [.int x3, .ref 37, .int x2]) (M' := M) (P := True) 3 rfl trivial ?_
    refine WX.callV (ca := mi_M_begins) (n := 1) (d' := 4) (st := [.int x2]) (As := [.int x3]) (q := 37) rfl lk_7_172 ck_M_begins cv_M_begins rfl (by decide) rfl (Nat.le_of_ble_eq_true rfl) ⟨by decide, rfl, by decide⟩ (by intro w hw; simp only [List.mem_cons, List.not_mem_nil, or_false] at hw; rcases hw with rfl <;> rfl) (Nat.le_of_ble_eq_true rfl) ?_
    refine wx_M_begins_37 M x3 (b2 c1) (b3 c1) (b4 c1) ?_
    show WX mi_M_now 6 Q 81 [some (.ref 37), some (.int x1), some (.int x2), some (.int x3)] [.int (z_M_begins_37 M x3), .int x2] M
    refine WX.if_eq (off := 7) (tgt := 88) rfl rfl (fun c2 => ?_) (fun c2 => ?_)
    · refine WX.run (pc' := 69) (L' := [some (.ref 37), some (.int x1), some (.int (x2 + 0)), some (.int (x3 + 1))]) (st' := []) (M' := M) (P := True) 5 rfl trivial ?_
      exact (h5 c1 c2)
    · refine WX.run (pc' := 69) (L' := [some (.ref 37), some (.int x1), some (.int (x2 + 1)), some (.int (x3 + 1))]) (st' := []) (M' := M) (P := True) 6 rfl trivial ?_
      exact (h6 c1 c2)
theorem sg_M_now_37_107 {Q : Option Value → Mem → Prop} (M : Mem) (x1 x2 r : Int32)
    (h1 : Q (some (.int r)) M) :
    WX mi_M_now 6 Q 107 [some (.ref 37), some (.int x1), some (.int x2), none] [.int r] M := by
  exact WX.iret rfl rfl h1
theorem sg_M_now_37_118 {Q : Option Value → Mem → Prop} (M : Mem) (x1 x2 r : Int32)
    (h1 : Q (some (.int r)) M) :
    WX mi_M_now 6 Q 118 [some (.ref 37), some (.int x1), some (.int x2), none] [.int r] M := by
  exact WX.iret rfl rfl h1
theorem sg_M_now_37_123 {Q : Option Value → Mem → Prop} (M : Mem) (x1 x2 r : Int32)
    (h1 : Q (some (.int r)) M) :
    WX mi_M_now 6 Q 123 [some (.ref 37), some (.int x1), some (.int x2), none] [.int r] M := by
  exact WX.iret rfl rfl h1
theorem sg_M_now_37_128 {Q : Option Value → Mem → Prop} (M : Mem) (x1 x2 r : Int32)
    (h1 : Q (some (.int r)) M) :
    WX mi_M_now 6 Q 128 [some (.ref 37), some (.int x1), some (.int x2), none] [.int r] M := by
  exact WX.iret rfl rfl h1
theorem sg_M_stock_37_0 {Q : Option Value → Mem → Prop} (M : Mem) (x1 : Int32)
    (h1 : (z_M_in x1 0 3) = 0 → Q (some (.int (-1))) M)
    (b2 : ¬ (z_M_in x1 0 3) = 0 → vp_in (32 + x1) 1257)
    (h3 : ¬ (z_M_in x1 0 3) = 0 → Q (some (.int (M.1 46 (32 + x1).toNatClampNeg))) M) :
    WX mi_M_stock 2 Q 0 [some (.ref 37), some (.int x1)] [] M := by
  refine WX.run (pc' := 3) (L' := [some (.ref 37), some (.int x1)]) (st' := [.int 3, .int 0, .int x1]) (M' := M) (P := True) 3 rfl trivial ?_
  refine WX.callS (ca := mi_M_in) (n := 3) (d' := 1) (st := []) (As := [.int x1, .int 0, .int 3]) rfl lk_7_72 ck_M_in cs_M_in rfl (by decide) rfl (Nat.le_of_ble_eq_true rfl) (by intro w hw; simp only [List.mem_cons, List.not_mem_nil, or_false] at hw; rcases hw with rfl | rfl | rfl <;> rfl) (Nat.le_of_ble_eq_true rfl) ?_
  refine wx_M_in M x1 0 3 ?_
  show WX mi_M_stock 2 Q 6 [some (.ref 37), some (.int x1)] [.int (z_M_in x1 0 3)] M
  refine WX.if_eq (off := 15) (tgt := 21) rfl rfl (fun c1 => ?_) (fun c1 => ?_)
  · refine WX.run (pc' := 22) (L' := [some (.ref 37), some (.int x1)]) (st' := [.int (-1)]) (M' := M) (P := True) 1 rfl trivial ?_
    exact WX.iret rfl rfl (h1 c1)
  · refine WX.run (pc' := 22) (L' := [some (.ref 37), some (.int x1)]) (st' := [.int (M.1 46 (32 + x1).toNatClampNeg)]) (M' := M) (P := (True ∧ vp_in (32 + x1) 1257)) 7 rfl ⟨trivial, (b2 c1)⟩ ?_
    exact WX.iret rfl rfl (h3 c1)
def z_M_stock_37 (M : Mem) (x1 : Int32) : Int32 := (if (z_M_in x1 0 3) = 0 then (-1) else (M.1 46 (32 + x1).toNatClampNeg))
theorem wx_M_stock_37 {Q : Option Value → Mem → Prop} (M : Mem) (x1 : Int32)
    (b2 : ¬ (z_M_in x1 0 3) = 0 → vp_in (32 + x1) 1257)
    (h : Q (some (.int (z_M_stock_37 M x1))) M) :
    WX mi_M_stock 2 Q 0 [some (.ref 37), some (.int x1)] [] M := by
  refine sg_M_stock_37_0 M x1
    (fun c1 => by
      unfold z_M_stock_37 at h
      rw [if_pos c1] at h
      exact h)
    b2
    (fun c1 => by
      unfold z_M_stock_37 at h
      rw [if_neg c1] at h
      exact h)
theorem sg_M_drop_37_0 {Q : Option Value → Mem → Prop} (M : Mem) (x1 x2 x3 : Int32)
    (h1 : (z_M_isDryAt_37 M x1 x2) = 0 → Q (some (.int (-1))) M)
    (h2 : ¬ (z_M_isDryAt_37 M x1 x2) = 0 → ¬ (z_M_in x3 0 1) = 0 → WX mi_M_nextOf 4 (fun rv M' => WX mi_M_drop 5 Q 40 [some (.ref 37), some (.int x1), some (.int x2), some (.int x3), some (.int ((4 * x2) + x1)), some (.int 0), none] (rv.toList ++ []) M') 0 [some (.ref 37), some (.ref 46), some (.int ((4 * x2) + x1)), none, none, none, none] [] M)
    (h3 : ¬ (z_M_isDryAt_37 M x1 x2) = 0 → (z_M_in x3 0 1) = 0 → Q (some (.int (-1))) M) :
    WX mi_M_drop 5 Q 0 [some (.ref 37), some (.int x1), some (.int x2), some (.int x3), none, none, none] [] M := by
  refine WX.run (pc' := 3) (L' := [some (.ref 37), some (.int x1), some (.int x2), some (.int x3), none, none, none]) (st' := [.int x2, .int x1, .ref 37]) (M' := M) (P := True) 3 rfl trivial ?_
  refine WX.callV (ca := mi_M_isDryAt) (n := 2) (d' := 3) (st := []) (As := [.int x1, .int x2]) (q := 37) rfl lk_7_200 ck_M_isDryAt cv_M_isDryAt rfl (by decide) rfl (Nat.le_of_ble_eq_true rfl) ⟨by decide, rfl, by decide⟩ (by intro w hw; simp only [List.mem_cons, List.not_mem_nil, or_false] at hw; rcases hw with rfl | rfl <;> rfl) (Nat.le_of_ble_eq_true rfl) ?_
  refine wx_M_isDryAt_37 M x1 x2 ?_
  show WX mi_M_drop 5 Q 6 [some (.ref 37), some (.int x1), some (.int x2), some (.int x3), none, none, none] [.int (z_M_isDryAt_37 M x1 x2)] M
  refine WX.if_eq (off := 12) (tgt := 18) rfl rfl (fun c1 => ?_) (fun c1 => ?_)
  · refine WX.run (pc' := 19) (L' := [some (.ref 37), some (.int x1), some (.int x2), some (.int x3), none, none, none]) (st' := [.int (-1)]) (M' := M) (P := True) 1 rfl trivial ?_
    exact WX.iret rfl rfl (h1 c1)
  · refine WX.run (pc' := 12) (L' := [some (.ref 37), some (.int x1), some (.int x2), some (.int x3), none, none, none]) (st' := [.int 1, .int 0, .int x3]) (M' := M) (P := True) 3 rfl trivial ?_
    refine WX.callS (ca := mi_M_in) (n := 3) (d' := 1) (st := []) (As := [.int x3, .int 0, .int 1]) rfl lk_7_72 ck_M_in cs_M_in rfl (by decide) rfl (Nat.le_of_ble_eq_true rfl) (by intro w hw; simp only [List.mem_cons, List.not_mem_nil, or_false] at hw; rcases hw with rfl | rfl | rfl <;> rfl) (Nat.le_of_ble_eq_true rfl) ?_
    refine wx_M_in M x3 0 1 ?_
    show WX mi_M_drop 5 Q 15 [some (.ref 37), some (.int x1), some (.int x2), some (.int x3), none, none, none] [.int (z_M_in x3 0 1)] M
    refine WX.if_ne (off := 5) (tgt := 20) rfl rfl (fun c2 => ?_) (fun c2 => ?_)
    · refine WX.run (pc' := 37) (L' := [some (.ref 37), some (.int x1), some (.int x2), some (.int x3), some (.int ((4 * x2) + x1)), some (.int 0), none]) (st' := [.int ((4 * x2) + x1), .ref 46, .ref 37]) (M' := M) (P := True) 12 rfl trivial ?_
      refine WX.callV (ca := mi_M_nextOf) (n := 2) (d' := 4) (st := []) (As := [.ref 46, .int ((4 * x2) + x1)]) (q := 37) rfl lk_7_181 ck_M_nextOf cv_M_nextOf rfl (by decide) rfl (Nat.le_of_ble_eq_true rfl) ⟨by decide, rfl, by decide⟩ (by intro w hw; simp only [List.mem_cons, List.not_mem_nil, or_false] at hw; rcases hw with rfl | rfl <;> rfl) (Nat.le_of_ble_eq_true rfl) ?_
      exact (h2 c1 c2)
    · refine WX.run (pc' := 19) (L' := [some (.ref 37), some (.int x1), some (.int x2), some (.int x3), none, none, none]) (st' := [.int (-1)]) (M' := M) (P := True) 1 rfl trivial ?_
      exact WX.iret rfl rfl (h3 c1 c2)
theorem sg_M_drop_37_40 {Q : Option Value → Mem → Prop} (M : Mem) (x1 x2 x3 x4 x5 r : Int32)
    (h1 : WX mi_M_drop 5 Q 42 [some (.ref 37), some (.int x1), some (.int x2), some (.int x3), some (.int x4), some (.int x5), some (.int r)] [] M) :
    WX mi_M_drop 5 Q 40 [some (.ref 37), some (.int x1), some (.int x2), some (.int x3), some (.int x4), some (.int x5), none] [.int r] M := by
  refine WX.run (pc' := 42) (L' := [some (.ref 37), some (.int x1), some (.int x2), some (.int x3), some (.int x4), some (.int x5), some (.int r)]) (st' := []) (M' := M) (P := True) 1 rfl trivial ?_
  exact h1
theorem sg_M_drop_37_42 {Q : Option Value → Mem → Prop} (M : Mem) (x1 x2 x3 x4 x5 x6 : Int32)
    (h1 : x6 = (-9) → ¬ x3 = 0 → Q (some (.int x5)) M)
    (h2 : x6 = (-9) → x3 = 0 → Q (some (.int x4)) M)
    (h3 : ¬ x6 = (-9) → WX mi_M_nextOf 4 (fun rv M' => WX mi_M_drop 5 Q 63 [some (.ref 37), some (.int x1), some (.int x2), some (.int x3), some (.int x6), some (.int x5), some (.int x6)] (rv.toList ++ []) M') 0 [some (.ref 37), some (.ref 46), some (.int x6), none, none, none, none] [] M) :
    WX mi_M_drop 5 Q 42 [some (.ref 37), some (.int x1), some (.int x2), some (.int x3), some (.int x4), some (.int x5), some (.int x6)] [] M := by
  refine WX.run (pc' := 46) (L' := [some (.ref 37), some (.int x1), some (.int x2), some (.int x3), some (.int x4), some (.int x5), some (.int x6)]) (st' := [.int (-9), .int x6]) (M' := M) (P := True) 2 rfl trivial ?_
  refine WX.icmp_eq (off := 25) (tgt := 71) rfl rfl (fun c1 => ?_) (fun c1 => ?_)
  · refine WX.run (pc' := 72) (L' := [some (.ref 37), some (.int x1), some (.int x2), some (.int x3), some (.int x4), some (.int x5), some (.int x6)]) (st' := [.int x3]) (M' := M) (P := True) 1 rfl trivial ?_
    refine WX.if_ne (off := 8) (tgt := 80) rfl rfl (fun c2 => ?_) (fun c2 => ?_)
    · refine WX.run (pc' := 82) (L' := [some (.ref 37), some (.int x1), some (.int x2), some (.int x3), some (.int x4), some (.int x5), some (.int x6)]) (st' := [.int x5]) (M' := M) (P := True) 1 rfl trivial ?_
      exact WX.iret rfl rfl (h1 c1 c2)
    · refine WX.run (pc' := 82) (L' := [some (.ref 37), some (.int x1), some (.int x2), some (.int x3), some (.int x4), some (.int x5), some (.int x6)]) (st' := [.int x4]) (M' := M) (P := True) 2 rfl trivial ?_
      exact WX.iret rfl rfl (h2 c1 c2)
  · refine WX.run (pc' := 60) (L' := [some (.ref 37), some (.int x1), some (.int x2), some (.int x3), some (.int x6), some (.int x5), some (.int x6)]) (st' := [.int x6, .ref 46, .ref 37]) (M' := M) (P := True) 6 rfl trivial ?_
    refine WX.callV (ca := mi_M_nextOf) (n := 2) (d' := 4) (st := []) (As := [.ref 46, .int x6]) (q := 37) rfl lk_7_181 ck_M_nextOf cv_M_nextOf rfl (by decide) rfl (Nat.le_of_ble_eq_true rfl) ⟨by decide, rfl, by decide⟩ (by intro w hw; simp only [List.mem_cons, List.not_mem_nil, or_false] at hw; rcases hw with rfl | rfl <;> rfl) (Nat.le_of_ble_eq_true rfl) ?_
    exact (h3 c1)
theorem sg_M_drop_37_63 {Q : Option Value → Mem → Prop} (M : Mem) (x1 x2 x3 x4 x5 x6 r : Int32)
    (h1 : WX mi_M_drop 5 Q 42 [some (.ref 37), some (.int x1), some (.int x2), some (.int x3), some (.int x4), some (.int (x5 + 1)), some (.int r)] [] M) :
    WX mi_M_drop 5 Q 63 [some (.ref 37), some (.int x1), some (.int x2), some (.int x3), some (.int x4), some (.int x5), some (.int x6)] [.int r] M := by
  refine WX.run (pc' := 42) (L' := [some (.ref 37), some (.int x1), some (.int x2), some (.int x3), some (.int x4), some (.int (x5 + 1)), some (.int r)]) (st' := []) (M' := M) (P := True) 3 rfl trivial ?_
  exact h1
