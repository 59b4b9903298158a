theorem wx_C_holds {d : Nat} {Q : Option Value → Mem → Prop} (M : Mem) (b k : Int32) (h : Q (some (.int (if shr b k &&& 1 = 0 then 0 else 1))) M) : WX mi_C_holds d Q 0 [some (.int b), some (.int k)] [] M := by
  refine WX.run (pc' := 5) (L' := [some (.int b), some (.int k)]) (st' := [.int (shr b k &&& 1)]) (M' := M) (P := True) 5 rfl trivial ?_
  refine WX.if_eq (off := 7) (tgt := 12) rfl rfl (fun c1 => ?_) (fun c1 => ?_)
  · refine WX.run (pc' := 13) (L' := [some (.int b), some (.int k)]) (st' := [.int 0]) (M' := M) (P := True) 1 rfl trivial ?_
    refine WX.zret rfl rfl (Or.inl rfl) ?_
    rw [if_pos c1] at h
    exact h
  · refine WX.run (pc' := 13) (L' := [some (.int b), some (.int k)]) (st' := [.int 1]) (M' := M) (P := True) 2 rfl trivial ?_
    refine WX.zret rfl rfl (Or.inr rfl) ?_
    rw [if_neg c1] at h
    exact h
theorem wx_C_beside {d : Nat} {Q : Option Value → Mem → Prop} (M : Mem) (b : Int32) (h : Q (some (.int ((((shl b 4 ||| shr b 4) ||| shl (b &&& 30583) 1) ||| shr (b &&& 61166) 1) &&& 65535))) M) : WX mi_C_beside d Q 0 [some (.int b)] [] M := by
  refine WX.run (pc' := 31) (L' := [some (.int b)]) (st' := [.int ((((shl b 4 ||| shr b 4) ||| shl (b &&& 30583) 1) ||| shr (b &&& 61166) 1) &&& 65535)]) (M' := M) (P := True) 21 rfl trivial ?_
  exact WX.iret rfl rfl h
theorem wx_G_cellsOf {d : Nat} {Q : Option Value → Mem → Prop} (M : Mem) (k : Int32) (hk : vp_in k 16) : WX mi_G_cellsOf d Q 0 [some (.ref 9), some (.int k)] [] M := by
  refine WX.run (pc' := 9) (L' := [some (.ref 9), some (.int k)]) (st' := [.int (M.1 11 k.toNatClampNeg), .ref 100]) (M' := M) (P := True ∧ vp_in k 16) 5 rfl ⟨trivial, hk⟩ ?_
  sorry
