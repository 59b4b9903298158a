/-! ===== printed by wip/gen/gen08.py: the stretches of the methods ===== -/
theorem sg_C_holds_0 {Q : Option Value → Mem → Prop} (M : Mem) (x0 x1 : Int32)
    (h1 : ((shr x0 x1) &&& 1) = 0 → Q (some (.int 0)) M)
    (h2 : ¬ ((shr x0 x1) &&& 1) = 0 → Q (some (.int 1)) M) :
    WX mi_C_holds 1 Q 0 [some (.int x0), some (.int x1)] [] M := by
  refine WX.run (pc' := 5) (L' := [some (.int x0), some (.int x1)]) (st' := [.int ((shr x0 x1) &&& 1)]) (M' := M) (P := True) 5 rfl trivial ?_
  refine WX.if_eq (off := 7) (tgt := 12) rfl rfl (fun c1 => ?_) (fun c1 => ?_)
  · refine WX.run (pc' := 13) (L' := [some (.int x0), some (.int x1)]) (st' := [.int 0]) (M' := M) (P := True) 1 rfl trivial ?_
    exact WX.zret rfl rfl (Or.inl rfl) (h1 c1)
  · refine WX.run (pc' := 13) (L' := [some (.int x0), some (.int x1)]) (st' := [.int 1]) (M' := M) (P := True) 2 rfl trivial ?_
    exact WX.zret rfl rfl (Or.inr rfl) (h2 c1)
def z_C_holds (x0 x1 : Int32) : Int32 := (if ((shr x0 x1) &&& 1) = 0 then 0 else 1)
theorem wx_C_holds {Q : Option Value → Mem → Prop} (M : Mem) (x0 x1 : Int32)
    (h : Q (some (.int (z_C_holds x0 x1))) M) :
    WX mi_C_holds 1 Q 0 [some (.int x0), some (.int x1)] [] M := by
  refine sg_C_holds_0 M x0 x1
    (fun c1 => by
      unfold z_C_holds at h
      rw [if_pos c1] at h
      exact h)
    (fun c1 => by
      unfold z_C_holds at h
      rw [if_neg c1] at h
      exact h)
theorem sg_C_beside_0 {Q : Option Value → Mem → Prop} (M : Mem) (x0 : Int32)
    (h1 : Q (some (.int (((((shl x0 4) ||| (shr x0 4)) ||| (shl (x0 &&& 30583) 1)) ||| (shr (x0 &&& 61166) 1)) &&& 65535))) M) :
    WX mi_C_beside 1 Q 0 [some (.int x0)] [] M := by
  refine WX.run (pc' := 27) (L' := [some (.int x0)]) (st' := [.int (((((shl x0 4) ||| (shr x0 4)) ||| (shl (x0 &&& 30583) 1)) ||| (shr (x0 &&& 61166) 1)) &&& 65535)]) (M' := M) (P := True) 21 rfl trivial ?_
  exact WX.iret rfl rfl h1
def z_C_beside (x0 : Int32) : Int32 := (((((shl x0 4) ||| (shr x0 4)) ||| (shl (x0 &&& 30583) 1)) ||| (shr (x0 &&& 61166) 1)) &&& 65535)
theorem wx_C_beside {Q : Option Value → Mem → Prop} (M : Mem) (x0 : Int32)
    (h : Q (some (.int (z_C_beside x0))) M) :
    WX mi_C_beside 1 Q 0 [some (.int x0)] [] M := by
  refine sg_C_beside_0 M x0
    (by
      unfold z_C_beside at h
      exact h)
theorem sg_C_isSize_0 {Q : Option Value → Mem → Prop} (M : Mem) (x0 : Int32)
    (h1 : x0 < 0 → Q (some (.int 0)) M)
    (h2 : ¬ x0 < 0 → 4 ≤ x0 → Q (some (.int 0)) M)
    (h3 : ¬ x0 < 0 → ¬ 4 ≤ x0 → Q (some (.int 1)) M) :
    WX mi_C_isSize 1 Q 0 [some (.int x0)] [] M := by
  refine WX.run (pc' := 1) (L' := [some (.int x0)]) (st' := [.int x0]) (M' := M) (P := True) 1 rfl trivial ?_
  refine WX.if_lt (off := 12) (tgt := 13) rfl rfl (fun c1 => ?_) (fun c1 => ?_)
  · refine WX.run (pc' := 14) (L' := [some (.int x0)]) (st' := [.int 0]) (M' := M) (P := True) 1 rfl trivial ?_
    exact WX.zret rfl rfl (Or.inl rfl) (h1 c1)
  · refine WX.run (pc' := 6) (L' := [some (.int x0)]) (st' := [.int 4, .int x0]) (M' := M) (P := True) 2 rfl trivial ?_
    refine WX.icmp_ge (off := 7) (tgt := 13) rfl rfl (fun c2 => ?_) (fun c2 => ?_)
    · refine WX.run (pc' := 14) (L' := [some (.int x0)]) (st' := [.int 0]) (M' := M) (P := True) 1 rfl trivial ?_
      exact WX.zret rfl rfl (Or.inl rfl) (h2 c1 c2)
    · refine WX.run (pc' := 14) (L' := [some (.int x0)]) (st' := [.int 1]) (M' := M) (P := True) 2 rfl trivial ?_
      exact WX.zret rfl rfl (Or.inr rfl) (h3 c1 c2)
def z_C_isSize (x0 : Int32) : Int32 := (if x0 < 0 then 0 else (if 4 ≤ x0 then 0 else 1))
theorem wx_C_isSize {Q : Option Value → Mem → Prop} (M : Mem) (x0 : Int32)
    (h : Q (some (.int (z_C_isSize x0))) M) :
    WX mi_C_isSize 1 Q 0 [some (.int x0)] [] M := by
  refine sg_C_isSize_0 M x0
    (fun c1 => by
      unfold z_C_isSize at h
      rw [if_pos c1] at h
      exact h)
    (fun c1 c2 => by
      unfold z_C_isSize at h
      rw [if_neg c1, if_pos c2] at h
      exact h)
    (fun c1 c2 => by
      unfold z_C_isSize at h
      rw [if_neg c1, if_neg c2] at h
      exact h)
theorem sg_C_isNumber_0 {Q : Option Value → Mem → Prop} (M : Mem) (x0 : Int32)
    (h1 : x0 < 0 → Q (some (.int 0)) M)
    (h2 : ¬ x0 < 0 → 16 ≤ x0 → Q (some (.int 0)) M)
    (h3 : ¬ x0 < 0 → ¬ 16 ≤ x0 → Q (some (.int 1)) M) :
    WX mi_C_isNumber 1 Q 0 [some (.int x0)] [] M := by
  refine WX.run (pc' := 1) (L' := [some (.int x0)]) (st' := [.int x0]) (M' := M) (P := True) 1 rfl trivial ?_
  refine WX.if_lt (off := 13) (tgt := 14) rfl rfl (fun c1 => ?_) (fun c1 => ?_)
  · refine WX.run (pc' := 15) (L' := [some (.int x0)]) (st' := [.int 0]) (M' := M) (P := True) 1 rfl trivial ?_
    exact WX.zret rfl rfl (Or.inl rfl) (h1 c1)
  · refine WX.run (pc' := 7) (L' := [some (.int x0)]) (st' := [.int 16, .int x0]) (M' := M) (P := True) 2 rfl trivial ?_
    refine WX.icmp_ge (off := 7) (tgt := 14) rfl rfl (fun c2 => ?_) (fun c2 => ?_)
    · refine WX.run (pc' := 15) (L' := [some (.int x0)]) (st' := [.int 0]) (M' := M) (P := True) 1 rfl trivial ?_
      exact WX.zret rfl rfl (Or.inl rfl) (h2 c1 c2)
    · refine WX.run (pc' := 15) (L' := [some (.int x0)]) (st' := [.int 1]) (M' := M) (P := True) 2 rfl trivial ?_
      exact WX.zret rfl rfl (Or.inr rfl) (h3 c1 c2)
def z_C_isNumber (x0 : Int32) : Int32 := (if x0 < 0 then 0 else (if 16 ≤ x0 then 0 else 1))
theorem wx_C_isNumber {Q : Option Value → Mem → Prop} (M : Mem) (x0 : Int32)
    (h : Q (some (.int (z_C_isNumber x0))) M) :
    WX mi_C_isNumber 1 Q 0 [some (.int x0)] [] M := by
  refine sg_C_isNumber_0 M x0
    (fun c1 => by
      unfold z_C_isNumber at h
      rw [if_pos c1] at h
      exact h)
    (fun c1 c2 => by
      unfold z_C_isNumber at h
      rw [if_neg c1, if_pos c2] at h
      exact h)
    (fun c1 c2 => by
      unfold z_C_isNumber at h
      rw [if_neg c1, if_neg c2] at h
      exact h)
theorem isNum_of_in {x : Int32} (b : vp_in x 16) : ¬ z_C_isNumber x = 0 := by
  unfold z_C_isNumber
  rw [if_neg (fun q => b (Or.inl q)), if_neg (fun q => b (Or.inr (by
    have h : (16 : Int32).toInt ≤ x.toInt := Int32.le_iff_toInt_le.mp q
    have h2 : (16 : Int32).toInt = 16 := by decide
    show 16 ≤ x.toInt.toNat
    omega)))]
  decide
theorem in_of_isNum {x : Int32} (c : ¬ z_C_isNumber x = 0) : vp_in x 16 := by
  unfold z_C_isNumber at c
  by_cases h0 : x < 0
  · rw [if_pos h0] at c; exact absurd rfl c
  · by_cases h1 : 16 ≤ x
    · rw [if_neg h0, if_pos h1] at c; exact absurd rfl c
    · intro q
      rcases q with q | q
      · exact h0 q
      · refine h1 (Int32.le_iff_toInt_le.mpr ?_)
        have h2 : (16 : Int32).toInt = 16 := by decide
        have q' : 16 ≤ x.toInt.toNat := q
        omega
theorem sg_C_numberOf_0 {Q : Option Value → Mem → Prop} (M : Mem) (x0 x1 : Int32)
    (h1 : Q (some (.int ((4 * x1) + x0))) M) :
    WX mi_C_numberOf 1 Q 0 [some (.int x0), some (.int x1)] [] M := by
  refine WX.run (pc' := 5) (L' := [some (.int x0), some (.int x1)]) (st' := [.int ((4 * x1) + x0)]) (M' := M) (P := True) 5 rfl trivial ?_
  exact WX.iret rfl rfl h1
def z_C_numberOf (x0 x1 : Int32) : Int32 := ((4 * x1) + x0)
theorem wx_C_numberOf {Q : Option Value → Mem → Prop} (M : Mem) (x0 x1 : Int32)
    (h : Q (some (.int (z_C_numberOf x0 x1))) M) :
    WX mi_C_numberOf 1 Q 0 [some (.int x0), some (.int x1)] [] M := by
  refine sg_C_numberOf_0 M x0 x1
    (by
      unfold z_C_numberOf at h
      exact h)
theorem sg_I_bitCount_0 {Q : Option Value → Mem → Prop} (M : Mem) (x0 : Int32)
    (h1 : Q (some (.int ((((((((x0 - ((usr x0 1) &&& 1431655765)) &&& 858993459) + ((usr (x0 - ((usr x0 1) &&& 1431655765)) 2) &&& 858993459)) + (usr (((x0 - ((usr x0 1) &&& 1431655765)) &&& 858993459) + ((usr (x0 - ((usr x0 1) &&& 1431655765)) 2) &&& 858993459)) 4)) &&& 252645135) + (usr (((((x0 - ((usr x0 1) &&& 1431655765)) &&& 858993459) + ((usr (x0 - ((usr x0 1) &&& 1431655765)) 2) &&& 858993459)) + (usr (((x0 - ((usr x0 1) &&& 1431655765)) &&& 858993459) + ((usr (x0 - ((usr x0 1) &&& 1431655765)) 2) &&& 858993459)) 4)) &&& 252645135) 8)) + (usr ((((((x0 - ((usr x0 1) &&& 1431655765)) &&& 858993459) + ((usr (x0 - ((usr x0 1) &&& 1431655765)) 2) &&& 858993459)) + (usr (((x0 - ((usr x0 1) &&& 1431655765)) &&& 858993459) + ((usr (x0 - ((usr x0 1) &&& 1431655765)) 2) &&& 858993459)) 4)) &&& 252645135) + (usr (((((x0 - ((usr x0 1) &&& 1431655765)) &&& 858993459) + ((usr (x0 - ((usr x0 1) &&& 1431655765)) 2) &&& 858993459)) + (usr (((x0 - ((usr x0 1) &&& 1431655765)) &&& 858993459) + ((usr (x0 - ((usr x0 1) &&& 1431655765)) 2) &&& 858993459)) 4)) &&& 252645135) 8)) 16)) &&& 63))) M) :
    WX mi_I_bitCount 1 Q 0 [some (.int x0)] [] M := by
  refine WX.run (pc' := 52) (L' := [some (.int (((((((x0 - ((usr x0 1) &&& 1431655765)) &&& 858993459) + ((usr (x0 - ((usr x0 1) &&& 1431655765)) 2) &&& 858993459)) + (usr (((x0 - ((usr x0 1) &&& 1431655765)) &&& 858993459) + ((usr (x0 - ((usr x0 1) &&& 1431655765)) 2) &&& 858993459)) 4)) &&& 252645135) + (usr (((((x0 - ((usr x0 1) &&& 1431655765)) &&& 858993459) + ((usr (x0 - ((usr x0 1) &&& 1431655765)) 2) &&& 858993459)) + (usr (((x0 - ((usr x0 1) &&& 1431655765)) &&& 858993459) + ((usr (x0 - ((usr x0 1) &&& 1431655765)) 2) &&& 858993459)) 4)) &&& 252645135) 8)) + (usr ((((((x0 - ((usr x0 1) &&& 1431655765)) &&& 858993459) + ((usr (x0 - ((usr x0 1) &&& 1431655765)) 2) &&& 858993459)) + (usr (((x0 - ((usr x0 1) &&& 1431655765)) &&& 858993459) + ((usr (x0 - ((usr x0 1) &&& 1431655765)) 2) &&& 858993459)) 4)) &&& 252645135) + (usr (((((x0 - ((usr x0 1) &&& 1431655765)) &&& 858993459) + ((usr (x0 - ((usr x0 1) &&& 1431655765)) 2) &&& 858993459)) + (usr (((x0 - ((usr x0 1) &&& 1431655765)) &&& 858993459) + ((usr (x0 - ((usr x0 1) &&& 1431655765)) 2) &&& 858993459)) 4)) &&& 252645135) 8)) 16)))]) (st' := [.int ((((((((x0 - ((usr x0 1) &&& 1431655765)) &&& 858993459) + ((usr (x0 - ((usr x0 1) &&& 1431655765)) 2) &&& 858993459)) + (usr (((x0 - ((usr x0 1) &&& 1431655765)) &&& 858993459) + ((usr (x0 - ((usr x0 1) &&& 1431655765)) 2) &&& 858993459)) 4)) &&& 252645135) + (usr (((((x0 - ((usr x0 1) &&& 1431655765)) &&& 858993459) + ((usr (x0 - ((usr x0 1) &&& 1431655765)) 2) &&& 858993459)) + (usr (((x0 - ((usr x0 1) &&& 1431655765)) &&& 858993459) + ((usr (x0 - ((usr x0 1) &&& 1431655765)) 2) &&& 858993459)) 4)) &&& 252645135) 8)) + (usr ((((((x0 - ((usr x0 1) &&& 1431655765)) &&& 858993459) + ((usr (x0 - ((usr x0 1) &&& 1431655765)) 2) &&& 858993459)) + (usr (((x0 - ((usr x0 1) &&& 1431655765)) &&& 858993459) + ((usr (x0 - ((usr x0 1) &&& 1431655765)) 2) &&& 858993459)) 4)) &&& 252645135) + (usr (((((x0 - ((usr x0 1) &&& 1431655765)) &&& 858993459) + ((usr (x0 - ((usr x0 1) &&& 1431655765)) 2) &&& 858993459)) + (usr (((x0 - ((usr x0 1) &&& 1431655765)) &&& 858993459) + ((usr (x0 - ((usr x0 1) &&& 1431655765)) 2) &&& 858993459)) 4)) &&& 252645135) 8)) 16)) &&& 63)]) (M' := M) (P := True) 41 rfl trivial ?_
  exact WX.iret rfl rfl h1
def z_I_bitCount (x0 : Int32) : Int32 := ((((((((x0 - ((usr x0 1) &&& 1431655765)) &&& 858993459) + ((usr (x0 - ((usr x0 1) &&& 1431655765)) 2) &&& 858993459)) + (usr (((x0 - ((usr x0 1) &&& 1431655765)) &&& 858993459) + ((usr (x0 - ((usr x0 1) &&& 1431655765)) 2) &&& 858993459)) 4)) &&& 252645135) + (usr (((((x0 - ((usr x0 1) &&& 1431655765)) &&& 858993459) + ((usr (x0 - ((usr x0 1) &&& 1431655765)) 2) &&& 858993459)) + (usr (((x0 - ((usr x0 1) &&& 1431655765)) &&& 858993459) + ((usr (x0 - ((usr x0 1) &&& 1431655765)) 2) &&& 858993459)) 4)) &&& 252645135) 8)) + (usr ((((((x0 - ((usr x0 1) &&& 1431655765)) &&& 858993459) + ((usr (x0 - ((usr x0 1) &&& 1431655765)) 2) &&& 858993459)) + (usr (((x0 - ((usr x0 1) &&& 1431655765)) &&& 858993459) + ((usr (x0 - ((usr x0 1) &&& 1431655765)) 2) &&& 858993459)) 4)) &&& 252645135) + (usr (((((x0 - ((usr x0 1) &&& 1431655765)) &&& 858993459) + ((usr (x0 - ((usr x0 1) &&& 1431655765)) 2) &&& 858993459)) + (usr (((x0 - ((usr x0 1) &&& 1431655765)) &&& 858993459) + ((usr (x0 - ((usr x0 1) &&& 1431655765)) 2) &&& 858993459)) 4)) &&& 252645135) 8)) 16)) &&& 63)
theorem wx_I_bitCount {Q : Option Value → Mem → Prop} (M : Mem) (x0 : Int32)
    (h : Q (some (.int (z_I_bitCount x0))) M) :
    WX mi_I_bitCount 1 Q 0 [some (.int x0)] [] M := by
  refine sg_I_bitCount_0 M x0
    (by
      unfold z_I_bitCount at h
      exact h)
theorem sg_C_bitsAt_100_0 {Q : Option Value → Mem → Prop} (M : Mem) (x1 x2 : Int32)
    (h1 : x1 < 0 → Q (some (.int 0)) M)
    (h2 : ¬ x1 < 0 → 4 ≤ x1 → Q (some (.int 0)) M)
    (b3 : ¬ x1 < 0 → ¬ 4 ≤ x1 → vp_in x1 4)
    (h4 : ¬ x1 < 0 → ¬ 4 ≤ x1 → Q (some (.int (shl (stV 0 x1.toNatClampNeg) x2))) M) :
    WX mi_C_bitsAt 1 Q 0 [some (.ref 100), some (.int x1), some (.int x2)] [] M := by
  refine WX.run (pc' := 1) (L' := [some (.ref 100), some (.int x1), some (.int x2)]) (st' := [.int x1]) (M' := M) (P := True) 1 rfl trivial ?_
  refine WX.if_lt (off := 17) (tgt := 18) rfl rfl (fun c1 => ?_) (fun c1 => ?_)
  · refine WX.run (pc' := 19) (L' := [some (.ref 100), some (.int x1), some (.int x2)]) (st' := [.int 0]) (M' := M) (P := True) 1 rfl trivial ?_
    exact WX.iret rfl rfl (h1 c1)
  · refine WX.run (pc' := 7) (L' := [some (.ref 100), some (.int x1), some (.int x2)]) (st' := [.int 4, .int x1]) (M' := M) (P := True) 3 rfl trivial ?_
    refine WX.icmp_ge (off := 11) (tgt := 18) rfl rfl (fun c2 => ?_) (fun c2 => ?_)
    · refine WX.run (pc' := 19) (L' := [some (.ref 100), some (.int x1), some (.int x2)]) (st' := [.int 0]) (M' := M) (P := True) 1 rfl trivial ?_
      exact WX.iret rfl rfl (h2 c1 c2)
    · refine WX.run (pc' := 19) (L' := [some (.ref 100), some (.int x1), some (.int x2)]) (st' := [.int (shl (stV 0 x1.toNatClampNeg) x2)]) (M' := M) (P := (True ∧ vp_in x1 4)) 6 rfl ⟨trivial, (b3 c1 c2)⟩ ?_
      exact WX.iret rfl rfl (h4 c1 c2)
def z_C_bitsAt_100 (x1 x2 : Int32) : Int32 := (if x1 < 0 then 0 else (if 4 ≤ x1 then 0 else (shl (stV 0 x1.toNatClampNeg) x2)))
theorem wx_C_bitsAt_100 {Q : Option Value → Mem → Prop} (M : Mem) (x1 x2 : Int32)
    (b3 : ¬ x1 < 0 → ¬ 4 ≤ x1 → vp_in x1 4)
    (h : Q (some (.int (z_C_bitsAt_100 x1 x2))) M) :
    WX mi_C_bitsAt 1 Q 0 [some (.ref 100), some (.int x1), some (.int x2)] [] M := by
  refine sg_C_bitsAt_100_0 M x1 x2
    (fun c1 => by
      unfold z_C_bitsAt_100 at h
      rw [if_pos c1] at h
      exact h)
    (fun c1 c2 => by
      unfold z_C_bitsAt_100 at h
      rw [if_neg c1, if_pos c2] at h
      exact h)
    b3
    (fun c1 c2 => by
      unfold z_C_bitsAt_100 at h
      rw [if_neg c1, if_neg c2] at h
      exact h)
theorem sg_C_bitsAt_102_0 {Q : Option Value → Mem → Prop} (M : Mem) (x1 x2 : Int32)
    (h1 : x1 < 0 → Q (some (.int 0)) M)
    (h2 : ¬ x1 < 0 → 4 ≤ x1 → Q (some (.int 0)) M)
    (b3 : ¬ x1 < 0 → ¬ 4 ≤ x1 → vp_in x1 4)
    (h4 : ¬ x1 < 0 → ¬ 4 ≤ x1 → Q (some (.int (shl (stV 2 x1.toNatClampNeg) x2))) M) :
    WX mi_C_bitsAt 1 Q 0 [some (.ref 102), some (.int x1), some (.int x2)] [] M := by
  refine WX.run (pc' := 1) (L' := [some (.ref 102), some (.int x1), some (.int x2)]) (st' := [.int x1]) (M' := M) (P := True) 1 rfl trivial ?_
  refine WX.if_lt (off := 17) (tgt := 18) rfl rfl (fun c1 => ?_) (fun c1 => ?_)
  · refine WX.run (pc' := 19) (L' := [some (.ref 102), some (.int x1), some (.int x2)]) (st' := [.int 0]) (M' := M) (P := True) 1 rfl trivial ?_
    exact WX.iret rfl rfl (h1 c1)
  · refine WX.run (pc' := 7) (L' := [some (.ref 102), some (.int x1), some (.int x2)]) (st' := [.int 4, .int x1]) (M' := M) (P := True) 3 rfl trivial ?_
    refine WX.icmp_ge (off := 11) (tgt := 18) rfl rfl (fun c2 => ?_) (fun c2 => ?_)
    · refine WX.run (pc' := 19) (L' := [some (.ref 102), some (.int x1), some (.int x2)]) (st' := [.int 0]) (M' := M) (P := True) 1 rfl trivial ?_
      exact WX.iret rfl rfl (h2 c1 c2)
    · refine WX.run (pc' := 19) (L' := [some (.ref 102), some (.int x1), some (.int x2)]) (st' := [.int (shl (stV 2 x1.toNatClampNeg) x2)]) (M' := M) (P := (True ∧ vp_in x1 4)) 6 rfl ⟨trivial, (b3 c1 c2)⟩ ?_
      exact WX.iret rfl rfl (h4 c1 c2)
def z_C_bitsAt_102 (x1 x2 : Int32) : Int32 := (if x1 < 0 then 0 else (if 4 ≤ x1 then 0 else (shl (stV 2 x1.toNatClampNeg) x2)))
theorem wx_C_bitsAt_102 {Q : Option Value → Mem → Prop} (M : Mem) (x1 x2 : Int32)
    (b3 : ¬ x1 < 0 → ¬ 4 ≤ x1 → vp_in x1 4)
    (h : Q (some (.int (z_C_bitsAt_102 x1 x2))) M) :
    WX mi_C_bitsAt 1 Q 0 [some (.ref 102), some (.int x1), some (.int x2)] [] M := by
  refine sg_C_bitsAt_102_0 M x1 x2
    (fun c1 => by
      unfold z_C_bitsAt_102 at h
      rw [if_pos c1] at h
      exact h)
    (fun c1 c2 => by
      unfold z_C_bitsAt_102 at h
      rw [if_neg c1, if_pos c2] at h
      exact h)
    b3
    (fun c1 c2 => by
      unfold z_C_bitsAt_102 at h
      rw [if_neg c1, if_neg c2] at h
      exact h)
theorem sg_C_bitsAt_103_0 {Q : Option Value → Mem → Prop} (M : Mem) (x1 x2 : Int32)
    (h1 : x1 < 0 → Q (some (.int 0)) M)
    (h2 : ¬ x1 < 0 → 4 ≤ x1 → Q (some (.int 0)) M)
    (b3 : ¬ x1 < 0 → ¬ 4 ≤ x1 → vp_in x1 4)
    (h4 : ¬ x1 < 0 → ¬ 4 ≤ x1 → Q (some (.int (shl (stV 3 x1.toNatClampNeg) x2))) M) :
    WX mi_C_bitsAt 1 Q 0 [some (.ref 103), some (.int x1), some (.int x2)] [] M := by
  refine WX.run (pc' := 1) (L' := [some (.ref 103), some (.int x1), some (.int x2)]) (st' := [.int x1]) (M' := M) (P := True) 1 rfl trivial ?_
  refine WX.if_lt (off := 17) (tgt := 18) rfl rfl (fun c1 => ?_) (fun c1 => ?_)
  · refine WX.run (pc' := 19) (L' := [some (.ref 103), some (.int x1), some (.int x2)]) (st' := [.int 0]) (M' := M) (P := True) 1 rfl trivial ?_
    exact WX.iret rfl rfl (h1 c1)
  · refine WX.run (pc' := 7) (L' := [some (.ref 103), some (.int x1), some (.int x2)]) (st' := [.int 4, .int x1]) (M' := M) (P := True) 3 rfl trivial ?_
    refine WX.icmp_ge (off := 11) (tgt := 18) rfl rfl (fun c2 => ?_) (fun c2 => ?_)
    · refine WX.run (pc' := 19) (L' := [some (.ref 103), some (.int x1), some (.int x2)]) (st' := [.int 0]) (M' := M) (P := True) 1 rfl trivial ?_
      exact WX.iret rfl rfl (h2 c1 c2)
    · refine WX.run (pc' := 19) (L' := [some (.ref 103), some (.int x1), some (.int x2)]) (st' := [.int (shl (stV 3 x1.toNatClampNeg) x2)]) (M' := M) (P := (True ∧ vp_in x1 4)) 6 rfl ⟨trivial, (b3 c1 c2)⟩ ?_
      exact WX.iret rfl rfl (h4 c1 c2)
def z_C_bitsAt_103 (x1 x2 : Int32) : Int32 := (if x1 < 0 then 0 else (if 4 ≤ x1 then 0 else (shl (stV 3 x1.toNatClampNeg) x2)))
theorem wx_C_bitsAt_103 {Q : Option Value → Mem → Prop} (M : Mem) (x1 x2 : Int32)
    (b3 : ¬ x1 < 0 → ¬ 4 ≤ x1 → vp_in x1 4)
    (h : Q (some (.int (z_C_bitsAt_103 x1 x2))) M) :
    WX mi_C_bitsAt 1 Q 0 [some (.ref 103), some (.int x1), some (.int x2)] [] M := by
  refine sg_C_bitsAt_103_0 M x1 x2
    (fun c1 => by
      unfold z_C_bitsAt_103 at h
      rw [if_pos c1] at h
      exact h)
    (fun c1 c2 => by
      unfold z_C_bitsAt_103 at h
      rw [if_neg c1, if_pos c2] at h
      exact h)
    b3
    (fun c1 c2 => by
      unfold z_C_bitsAt_103 at h
      rw [if_neg c1, if_neg c2] at h
      exact h)
theorem sg_C_fits_0 {Q : Option Value → Mem → Prop} (M : Mem) (x0 x1 x2 : Int32)
    (h1 : (z_C_isSize x0) = 0 → Q (some (.int 0)) M)
    (h2 : ¬ (z_C_isSize x0) = 0 → (z_C_isNumber x1) = 0 → Q (some (.int 0)) M)
    (b3 : ¬ (z_C_isSize x0) = 0 → ¬ (z_C_isNumber x1) = 0 → vp_in x0 4)
    (h4 : ¬ (z_C_isSize x0) = 0 → ¬ (z_C_isNumber x1) = 0 → 4 < ((rem x1 4) + (stV 1 x0.toNatClampNeg)) → Q (some (.int 0)) M)
    (b5 : ¬ (z_C_isSize x0) = 0 → ¬ (z_C_isNumber x1) = 0 → ¬ 4 < ((rem x1 4) + (stV 1 x0.toNatClampNeg)) → ¬ x0 < 0 → ¬ 4 ≤ x0 → vp_in x0 4)
    (h6 : ¬ (z_C_isSize x0) = 0 → ¬ (z_C_isNumber x1) = 0 → ¬ 4 < ((rem x1 4) + (stV 1 x0.toNatClampNeg)) → ¬ ((z_C_bitsAt_100 x0 x1) &&& (x2 ^^^ (-1))) = 0 → Q (some (.int 0)) M)
    (h7 : ¬ (z_C_isSize x0) = 0 → ¬ (z_C_isNumber x1) = 0 → ¬ 4 < ((rem x1 4) + (stV 1 x0.toNatClampNeg)) → ((z_C_bitsAt_100 x0 x1) &&& (x2 ^^^ (-1))) = 0 → Q (some (.int 1)) M) :
    WX mi_C_fits 2 Q 0 [some (.int x0), some (.int x1), some (.int x2)] [] M := by
  refine WX.run (pc' := 1) (L' := [some (.int x0), some (.int x1), some (.int x2)]) (st' := [.int x0]) (M' := M) (P := True) 1 rfl trivial ?_
  refine WX.callS (ca := mi_C_isSize) (n := 1) (d' := 1) (st := []) (As := [.int x0]) rfl lk_6_112 ck_C_isSize cs_C_isSize rfl (by decide) rfl (Nat.le_of_ble_eq_true rfl) (by intro w hw; simp only [List.mem_cons, List.not_mem_nil, or_false] at hw; rcases hw with rfl <;> rfl) (Nat.le_of_ble_eq_true rfl) ?_
  refine wx_C_isSize M x0 ?_
  show WX mi_C_fits 2 Q 4 [some (.int x0), some (.int x1), some (.int x2)] [.int (z_C_isSize x0)] M
  refine WX.if_eq (off := 42) (tgt := 46) rfl rfl (fun c1 => ?_) (fun c1 => ?_)
  · refine WX.run (pc' := 47) (L' := [some (.int x0), some (.int x1), some (.int x2)]) (st' := [.int 0]) (M' := M) (P := True) 1 rfl trivial ?_
    exact WX.zret rfl rfl (Or.inl rfl) (h1 c1)
  · refine WX.run (pc' := 8) (L' := [some (.int x0), some (.int x1), some (.int x2)]) (st' := [.int x1]) (M' := M) (P := True) 1 rfl trivial ?_
    refine WX.callS (ca := mi_C_isNumber) (n := 1) (d' := 1) (st := []) (As := [.int x1]) rfl lk_6_224 ck_C_isNumber cs_C_isNumber rfl (by decide) rfl (Nat.le_of_ble_eq_true rfl) (by intro w hw; simp only [List.mem_cons, List.not_mem_nil, or_false] at hw; rcases hw with rfl <;> rfl) (Nat.le_of_ble_eq_true rfl) ?_
    refine wx_C_isNumber M x1 ?_
    show WX mi_C_fits 2 Q 11 [some (.int x0), some (.int x1), some (.int x2)] [.int (z_C_isNumber x1)] M
    refine WX.if_eq (off := 35) (tgt := 46) rfl rfl (fun c2 => ?_) (fun c2 => ?_)
    · refine WX.run (pc' := 47) (L' := [some (.int x0), some (.int x1), some (.int x2)]) (st' := [.int 0]) (M' := M) (P := True) 1 rfl trivial ?_
      exact WX.zret rfl rfl (Or.inl rfl) (h2 c1 c2)
    · refine WX.run (pc' := 24) (L' := [some (.int x0), some (.int x1), some (.int x2)]) (st' := [.int 4, .int ((rem x1 4) + (stV 1 x0.toNatClampNeg))]) (M' := M) (P := ((True ∧ ¬ 4 = 0) ∧ vp_in x0 4)) 8 rfl ⟨⟨trivial, (by decide)⟩, (b3 c1 c2)⟩ ?_
      refine WX.icmp_gt (off := 22) (tgt := 46) rfl rfl (fun c3 => ?_) (fun c3 => ?_)
      · refine WX.run (pc' := 47) (L' := [some (.int x0), some (.int x1), some (.int x2)]) (st' := [.int 0]) (M' := M) (P := True) 1 rfl trivial ?_
        exact WX.zret rfl rfl (Or.inl rfl) (h4 c1 c2 c3)
      · refine WX.run (pc' := 32) (L' := [some (.int x0), some (.int x1), some (.int x2)]) (st' := [.int x1, .int x0, .ref 100]) (M' := M) (P := True) 3 rfl trivial ?_
        refine WX.callS (ca := mi_C_bitsAt) (n := 3) (d' := 1) (st := []) (As := [.ref 100, .int x0, .int x1]) rfl lk_6_307 ck_C_bitsAt cs_C_bitsAt rfl (by decide) rfl (Nat.le_of_ble_eq_true rfl) (by intro w hw; simp only [List.mem_cons, List.not_mem_nil, or_false] at hw; rcases hw with rfl | rfl | rfl <;> rfl) (Nat.le_of_ble_eq_true rfl) ?_
        refine wx_C_bitsAt_100 M x0 x1 (b5 c1 c2 c3) ?_
        show WX mi_C_fits 2 Q 35 [some (.int x0), some (.int x1), some (.int x2)] [.int (z_C_bitsAt_100 x0 x1)] M
        refine WX.run (pc' := 39) (L' := [some (.int x0), some (.int x1), some (.int x2)]) (st' := [.int ((z_C_bitsAt_100 x0 x1) &&& (x2 ^^^ (-1)))]) (M' := M) (P := True) 4 rfl trivial ?_
        refine WX.if_ne (off := 7) (tgt := 46) rfl rfl (fun c4 => ?_) (fun c4 => ?_)
        · refine WX.run (pc' := 47) (L' := [some (.int x0), some (.int x1), some (.int x2)]) (st' := [.int 0]) (M' := M) (P := True) 1 rfl trivial ?_
          exact WX.zret rfl rfl (Or.inl rfl) (h6 c1 c2 c3 c4)
        · refine WX.run (pc' := 47) (L' := [some (.int x0), some (.int x1), some (.int x2)]) (st' := [.int 1]) (M' := M) (P := True) 2 rfl trivial ?_
          exact WX.zret rfl rfl (Or.inr rfl) (h7 c1 c2 c3 c4)
def z_C_fits (x0 x1 x2 : Int32) : Int32 := (if (z_C_isSize x0) = 0 then 0 else (if (z_C_isNumber x1) = 0 then 0 else (if 4 < ((rem x1 4) + (stV 1 x0.toNatClampNeg)) then 0 else (if ((z_C_bitsAt_100 x0 x1) &&& (x2 ^^^ (-1))) = 0 then 1 else 0))))
theorem wx_C_fits {Q : Option Value → Mem → Prop} (M : Mem) (x0 x1 x2 : Int32)
    (b3 : ¬ (z_C_isSize x0) = 0 → ¬ (z_C_isNumber x1) = 0 → vp_in x0 4)
    (b5 : ¬ (z_C_isSize x0) = 0 → ¬ (z_C_isNumber x1) = 0 → ¬ 4 < ((rem x1 4) + (stV 1 x0.toNatClampNeg)) → ¬ x0 < 0 → ¬ 4 ≤ x0 → vp_in x0 4)
    (h : Q (some (.int (z_C_fits x0 x1 x2))) M) :
    WX mi_C_fits 2 Q 0 [some (.int x0), some (.int x1), some (.int x2)] [] M := by
  refine sg_C_fits_0 M x0 x1 x2
    (fun c1 => by
      unfold z_C_fits at h
      rw [if_pos c1] at h
      exact h)
    (fun c1 c2 => by
      unfold z_C_fits at h
      rw [if_neg c1, if_pos c2] at h
      exact h)
    b3
    (fun c1 c2 c3 => by
      unfold z_C_fits at h
      rw [if_neg c1, if_neg c2, if_pos c3] at h
      exact h)
    b5
    (fun c1 c2 c3 c4 => by
      unfold z_C_fits at h
      rw [if_neg c1, if_neg c2, if_neg c3, if_neg c4] at h
      exact h)
    (fun c1 c2 c3 c4 => by
      unfold z_C_fits at h
      rw [if_neg c1, if_neg c2, if_neg c3, if_pos c4] at h
      exact h)
theorem sg_C_crossPoints_0 {Q : Option Value → Mem → Prop} (M : Mem) (x0 x1 x2 : Int32)
    (h1 : Q (some (.int ((((((x0 &&& (shr x0 1)) &&& (shr x0 4)) &&& (shr x0 5)) &&& ((((x1 ||| (shr x1 4)) ||| x2) ||| (shr x2 1)) ^^^ (-1))) &&& 30583) &&& 4095))) M) :
    WX mi_C_crossPoints 1 Q 0 [some (.int x0), some (.int x1), some (.int x2), none, none] [] M := by
  refine WX.run (pc' := 41) (L' := [some (.int x0), some (.int x1), some (.int x2), some (.int (((x0 &&& (shr x0 1)) &&& (shr x0 4)) &&& (shr x0 5))), some (.int (((x1 ||| (shr x1 4)) ||| x2) ||| (shr x2 1)))]) (st' := [.int ((((((x0 &&& (shr x0 1)) &&& (shr x0 4)) &&& (shr x0 5)) &&& ((((x1 ||| (shr x1 4)) ||| x2) ||| (shr x2 1)) ^^^ (-1))) &&& 30583) &&& 4095)]) (M' := M) (P := True) 35 rfl trivial ?_
  exact WX.iret rfl rfl h1
def z_C_crossPoints (x0 x1 x2 : Int32) : Int32 := ((((((x0 &&& (shr x0 1)) &&& (shr x0 4)) &&& (shr x0 5)) &&& ((((x1 ||| (shr x1 4)) ||| x2) ||| (shr x2 1)) ^^^ (-1))) &&& 30583) &&& 4095)
theorem wx_C_crossPoints {Q : Option Value → Mem → Prop} (M : Mem) (x0 x1 x2 : Int32)
    (h : Q (some (.int (z_C_crossPoints x0 x1 x2))) M) :
    WX mi_C_crossPoints 1 Q 0 [some (.int x0), some (.int x1), some (.int x2), none, none] [] M := by
  refine sg_C_crossPoints_0 M x0 x1 x2
    (by
      unfold z_C_crossPoints at h
      exact h)
theorem sg_C_longestSeam_0 {Q : Option Value → Mem → Prop} (M : Mem) (x0 x1 x2 : Int32)
    (h1 : WX mi_C_longestSeam 1 Q 35 [some (.int x0), some (.int x1), some (.int x2), some (.int (((x0 &&& (shr x0 1)) &&& 30583) &&& (x1 ^^^ (-1)))), some (.int (((x0 &&& (shr x0 4)) &&& 4095) &&& (x2 ^^^ (-1)))), some (.int 0), some (.int 0)] [] M) :
    WX mi_C_longestSeam 1 Q 0 [some (.int x0), some (.int x1), some (.int x2), none, none, none, none] [] M := by
  refine WX.run (pc' := 35) (L' := [some (.int x0), some (.int x1), some (.int x2), some (.int (((x0 &&& (shr x0 1)) &&& 30583) &&& (x1 ^^^ (-1)))), some (.int (((x0 &&& (shr x0 4)) &&& 4095) &&& (x2 ^^^ (-1)))), some (.int 0), some (.int 0)]) (st' := []) (M' := M) (P := True) 28 rfl trivial ?_
  exact h1
theorem sg_C_longestSeam_35 {Q : Option Value → Mem → Prop} (M : Mem) (x0 x1 x2 x3 x4 x5 x6 : Int32)
    (h1 : 4 ≤ x6 → Q (some (.int x5)) M)
    (h2 : ¬ 4 ≤ x6 → (x3 ||| x4) = 0 → Q (some (.int x5)) M)
    (h3 : ¬ 4 ≤ x6 → ¬ (x3 ||| x4) = 0 → WX mi_C_longestSeam 1 Q 35 [some (.int x0), some (.int x1), some (.int x2), some (.int (x3 &&& (shr x3 4))), some (.int (x4 &&& ((shr x4 1) &&& 30583))), some (.int (x5 + 1)), some (.int (x6 + 1))] [] M) :
    WX mi_C_longestSeam 1 Q 35 [some (.int x0), some (.int x1), some (.int x2), some (.int x3), some (.int x4), some (.int x5), some (.int x6)] [] M := by
  refine WX.run (pc' := 38) (L' := [some (.int x0), some (.int x1), some (.int x2), some (.int x3), some (.int x4), some (.int x5), some (.int x6)]) (st' := [.int 4, .int x6]) (M' := M) (P := True) 2 rfl trivial ?_
  refine WX.icmp_ge (off := 38) (tgt := 76) rfl rfl (fun c1 => ?_) (fun c1 => ?_)
  · refine WX.run (pc' := 78) (L' := [some (.int x0), some (.int x1), some (.int x2), some (.int x3), some (.int x4), some (.int x5), some (.int x6)]) (st' := [.int x5]) (M' := M) (P := True) 1 rfl trivial ?_
    exact WX.iret rfl rfl (h1 c1)
  · refine WX.run (pc' := 45) (L' := [some (.int x0), some (.int x1), some (.int x2), some (.int x3), some (.int x4), some (.int x5), some (.int x6)]) (st' := [.int (x3 ||| x4)]) (M' := M) (P := True) 3 rfl trivial ?_
    refine WX.if_eq (off := 31) (tgt := 76) rfl rfl (fun c2 => ?_) (fun c2 => ?_)
    · refine WX.run (pc' := 78) (L' := [some (.int x0), some (.int x1), some (.int x2), some (.int x3), some (.int x4), some (.int x5), some (.int x6)]) (st' := [.int x5]) (M' := M) (P := True) 1 rfl trivial ?_
      exact WX.iret rfl rfl (h2 c1 c2)
    · refine WX.run (pc' := 35) (L' := [some (.int x0), some (.int x1), some (.int x2), some (.int (x3 &&& (shr x3 4))), some (.int (x4 &&& ((shr x4 1) &&& 30583))), some (.int (x5 + 1)), some (.int (x6 + 1))]) (st' := []) (M' := M) (P := True) 17 rfl trivial ?_
      exact (h3 c1 c2)
theorem sg_C_power_0 {Q : Option Value → Mem → Prop} (M : Mem) (x0 x1 : Int32)
    (h1 : WX mi_C_power 1 Q 4 [some (.int x0), some (.int x1), some (.int 1), some (.int 0)] [] M) :
    WX mi_C_power 1 Q 0 [some (.int x0), some (.int x1), none, none] [] M := by
  refine WX.run (pc' := 4) (L' := [some (.int x0), some (.int x1), some (.int 1), some (.int 0)]) (st' := []) (M' := M) (P := True) 4 rfl trivial ?_
  exact h1
theorem sg_C_power_4 {Q : Option Value → Mem → Prop} (M : Mem) (x0 x1 x2 x3 : Int32)
    (h1 : x1 ≤ x3 → Q (some (.int x2)) M)
    (h2 : ¬ x1 ≤ x3 → WX mi_C_power 1 Q 4 [some (.int x0), some (.int x1), some (.int (x2 * x0)), some (.int (x3 + 1))] [] M) :
    WX mi_C_power 1 Q 4 [some (.int x0), some (.int x1), some (.int x2), some (.int x3)] [] M := by
  refine WX.run (pc' := 6) (L' := [some (.int x0), some (.int x1), some (.int x2), some (.int x3)]) (st' := [.int x1, .int x3]) (M' := M) (P := True) 2 rfl trivial ?_
  refine WX.icmp_ge (off := 13) (tgt := 19) rfl rfl (fun c1 => ?_) (fun c1 => ?_)
  · refine WX.run (pc' := 20) (L' := [some (.int x0), some (.int x1), some (.int x2), some (.int x3)]) (st' := [.int x2]) (M' := M) (P := True) 1 rfl trivial ?_
    exact WX.iret rfl rfl (h1 c1)
  · refine WX.run (pc' := 4) (L' := [some (.int x0), some (.int x1), some (.int (x2 * x0)), some (.int (x3 + 1))]) (st' := []) (M' := M) (P := True) 6 rfl trivial ?_
    exact (h2 c1)
theorem sg_C_choices_0 {Q : Option Value → Mem → Prop} (M : Mem) (x0 x1 : Int32)
    (h1 : WX mi_C_choices 1 Q 4 [some (.int x0), some (.int x1), some (.int 1), some (.int 0)] [] M) :
    WX mi_C_choices 1 Q 0 [some (.int x0), some (.int x1), none, none] [] M := by
  refine WX.run (pc' := 4) (L' := [some (.int x0), some (.int x1), some (.int 1), some (.int 0)]) (st' := []) (M' := M) (P := True) 4 rfl trivial ?_
  exact h1
theorem sg_C_choices_4 {Q : Option Value → Mem → Prop} (M : Mem) (x0 x1 x2 x3 : Int32)
    (h1 : x1 ≤ x3 → Q (some (.int x2)) M)
    (b2 : ¬ x1 ≤ x3 → ¬ (x3 + 1) = 0)
    (h3 : ¬ x1 ≤ x3 → WX mi_C_choices 1 Q 4 [some (.int x0), some (.int x1), some (.int ((x2 * (x0 - x3)) / (x3 + 1))), some (.int (x3 + 1))] [] M) :
    WX mi_C_choices 1 Q 4 [some (.int x0), some (.int x1), some (.int x2), some (.int x3)] [] M := by
  refine WX.run (pc' := 6) (L' := [some (.int x0), some (.int x1), some (.int x2), some (.int x3)]) (st' := [.int x1, .int x3]) (M' := M) (P := True) 2 rfl trivial ?_
  refine WX.icmp_ge (off := 19) (tgt := 25) rfl rfl (fun c1 => ?_) (fun c1 => ?_)
  · refine WX.run (pc' := 26) (L' := [some (.int x0), some (.int x1), some (.int x2), some (.int x3)]) (st' := [.int x2]) (M' := M) (P := True) 1 rfl trivial ?_
    exact WX.iret rfl rfl (h1 c1)
  · refine WX.run (pc' := 4) (L' := [some (.int x0), some (.int x1), some (.int ((x2 * (x0 - x3)) / (x3 + 1))), some (.int (x3 + 1))]) (st' := []) (M' := M) (P := (True ∧ ¬ (x3 + 1) = 0)) 12 rfl ⟨trivial, (b2 c1)⟩ ?_
    exact (h3 c1)
theorem sg_C_commonDivisor_0 {Q : Option Value → Mem → Prop} (M : Mem) (x0 x1 : Int32)
    (h1 : WX mi_C_commonDivisor 1 Q 7 [some (.int x0), some (.int x1), some (.int x0), some (.int x1), some (.int 0), none] [] M) :
    WX mi_C_commonDivisor 1 Q 0 [some (.int x0), some (.int x1), none, none, none, none] [] M := by
  refine WX.run (pc' := 7) (L' := [some (.int x0), some (.int x1), some (.int x0), some (.int x1), some (.int 0), none]) (st' := []) (M' := M) (P := True) 6 rfl trivial ?_
  exact h1
theorem sg_C_commonDivisor_7 {Q : Option Value → Mem → Prop} (M : Mem) (x0 x1 x2 x3 x4 : Int32)
    (h1 : 64 ≤ x4 → Q (some (.int x2)) M)
    (h2 : ¬ 64 ≤ x4 → x3 = 0 → Q (some (.int x2)) M)
    (b3 : ¬ 64 ≤ x4 → ¬ x3 = 0 → ¬ x3 = 0)
    (h4 : ¬ 64 ≤ x4 → ¬ x3 = 0 → WX mi_C_commonDivisor 1 Q 7 [some (.int x0), some (.int x1), some (.int x3), some (.int (rem x2 x3)), some (.int (x4 + 1)), none] [] M) :
    WX mi_C_commonDivisor 1 Q 7 [some (.int x0), some (.int x1), some (.int x2), some (.int x3), some (.int x4), none] [] M := by
  refine WX.run (pc' := 11) (L' := [some (.int x0), some (.int x1), some (.int x2), some (.int x3), some (.int x4), none]) (st' := [.int 64, .int x4]) (M' := M) (P := True) 2 rfl trivial ?_
  refine WX.icmp_ge (off := 23) (tgt := 34) rfl rfl (fun c1 => ?_) (fun c1 => ?_)
  · refine WX.run (pc' := 35) (L' := [some (.int x0), some (.int x1), some (.int x2), some (.int x3), some (.int x4), none]) (st' := [.int x2]) (M' := M) (P := True) 1 rfl trivial ?_
    exact WX.iret rfl rfl (h1 c1)
  · refine WX.run (pc' := 15) (L' := [some (.int x0), some (.int x1), some (.int x2), some (.int x3), some (.int x4), none]) (st' := [.int x3]) (M' := M) (P := True) 1 rfl trivial ?_
    refine WX.if_eq (off := 19) (tgt := 34) rfl rfl (fun c2 => ?_) (fun c2 => ?_)
    · refine WX.run (pc' := 35) (L' := [some (.int x0), some (.int x1), some (.int x2), some (.int x3), some (.int x4), none]) (st' := [.int x2]) (M' := M) (P := True) 1 rfl trivial ?_
      exact WX.iret rfl rfl (h2 c1 c2)
    · refine WX.run (pc' := 7) (L' := [some (.int x0), some (.int x1), some (.int x3), some (.int (rem x2 x3)), some (.int (x4 + 1)), some (.int (rem x2 x3))]) (st' := []) (M' := M) (P := (True ∧ ¬ x3 = 0)) 10 rfl ⟨trivial, (b3 c1 c2)⟩ ?_
      refine WX.forget2 (L' := [some (.int x0), some (.int x1), some (.int x3), some (.int (rem x2 x3)), some (.int (x4 + 1)), none]) ?_ ⟨Or.inr rfl, Or.inr rfl, Or.inr rfl, Or.inr rfl, Or.inr rfl, Or.inl rfl, trivial⟩
      exact (h4 c1 c2)
theorem sg_L_has_6_0 {Q : Option Value → Mem → Prop} (M : Mem) (x1 x2 : Int32)
    (h1 : x1 < 0 → Q (some (.int 0)) M)
    (h2 : ¬ x1 < 0 → (M.1 6 0) ≤ x1 → Q (some (.int 0)) M)
    (h3 : ¬ x1 < 0 → ¬ (M.1 6 0) ≤ x1 → x2 < 0 → Q (some (.int 0)) M)
    (h4 : ¬ x1 < 0 → ¬ (M.1 6 0) ≤ x1 → ¬ x2 < 0 → (M.1 6 1) ≤ x2 → Q (some (.int 0)) M)
    (h5 : ¬ x1 < 0 → ¬ (M.1 6 0) ≤ x1 → ¬ x2 < 0 → ¬ (M.1 6 1) ≤ x2 → Q (some (.int 1)) M) :
    WX mi_L_has 1 Q 0 [some (.ref 6), some (.int x1), some (.int x2)] [] M := by
  refine WX.run (pc' := 1) (L' := [some (.ref 6), some (.int x1), some (.int x2)]) (st' := [.int x1]) (M' := M) (P := True) 1 rfl trivial ?_
  refine WX.if_lt (off := 27) (tgt := 28) rfl rfl (fun c1 => ?_) (fun c1 => ?_)
  · refine WX.run (pc' := 29) (L' := [some (.ref 6), some (.int x1), some (.int x2)]) (st' := [.int 0]) (M' := M) (P := True) 1 rfl trivial ?_
    exact WX.zret rfl rfl (Or.inl rfl) (h1 c1)
  · refine WX.run (pc' := 9) (L' := [some (.ref 6), some (.int x1), some (.int x2)]) (st' := [.int (M.1 6 0), .int x1]) (M' := M) (P := True) 3 rfl trivial ?_
    refine WX.icmp_ge (off := 19) (tgt := 28) rfl rfl (fun c2 => ?_) (fun c2 => ?_)
    · refine WX.run (pc' := 29) (L' := [some (.ref 6), some (.int x1), some (.int x2)]) (st' := [.int 0]) (M' := M) (P := True) 1 rfl trivial ?_
      exact WX.zret rfl rfl (Or.inl rfl) (h2 c1 c2)
    · refine WX.run (pc' := 13) (L' := [some (.ref 6), some (.int x1), some (.int x2)]) (st' := [.int x2]) (M' := M) (P := True) 1 rfl trivial ?_
      refine WX.if_lt (off := 15) (tgt := 28) rfl rfl (fun c3 => ?_) (fun c3 => ?_)
      · refine WX.run (pc' := 29) (L' := [some (.ref 6), some (.int x1), some (.int x2)]) (st' := [.int 0]) (M' := M) (P := True) 1 rfl trivial ?_
        exact WX.zret rfl rfl (Or.inl rfl) (h3 c1 c2 c3)
      · refine WX.run (pc' := 21) (L' := [some (.ref 6), some (.int x1), some (.int x2)]) (st' := [.int (M.1 6 1), .int x2]) (M' := M) (P := True) 3 rfl trivial ?_
        refine WX.icmp_ge (off := 7) (tgt := 28) rfl rfl (fun c4 => ?_) (fun c4 => ?_)
        · refine WX.run (pc' := 29) (L' := [some (.ref 6), some (.int x1), some (.int x2)]) (st' := [.int 0]) (M' := M) (P := True) 1 rfl trivial ?_
          exact WX.zret rfl rfl (Or.inl rfl) (h4 c1 c2 c3 c4)
        · refine WX.run (pc' := 29) (L' := [some (.ref 6), some (.int x1), some (.int x2)]) (st' := [.int 1]) (M' := M) (P := True) 2 rfl trivial ?_
          exact WX.zret rfl rfl (Or.inr rfl) (h5 c1 c2 c3 c4)
def z_L_has_6 (M : Mem) (x1 x2 : Int32) : Int32 := (if x1 < 0 then 0 else (if (M.1 6 0) ≤ x1 then 0 else (if x2 < 0 then 0 else (if (M.1 6 1) ≤ x2 then 0 else 1))))
theorem wx_L_has_6 {Q : Option Value → Mem → Prop} (M : Mem) (x1 x2 : Int32)
    (h : Q (some (.int (z_L_has_6 M x1 x2))) M) :
    WX mi_L_has 1 Q 0 [some (.ref 6), some (.int x1), some (.int x2)] [] M := by
  refine sg_L_has_6_0 M x1 x2
    (fun c1 => by
      unfold z_L_has_6 at h
      rw [if_pos c1] at h
      exact h)
    (fun c1 c2 => by
      unfold z_L_has_6 at h
      rw [if_neg c1, if_pos c2] at h
      exact h)
    (fun c1 c2 c3 => by
      unfold z_L_has_6 at h
      rw [if_neg c1, if_neg c2, if_pos c3] at h
      exact h)
    (fun c1 c2 c3 c4 => by
      unfold z_L_has_6 at h
      rw [if_neg c1, if_neg c2, if_neg c3, if_pos c4] at h
      exact h)
    (fun c1 c2 c3 c4 => by
      unfold z_L_has_6 at h
      rw [if_neg c1, if_neg c2, if_neg c3, if_neg c4] at h
      exact h)
theorem sg_L_isOpen_6_0 {Q : Option Value → Mem → Prop} (M : Mem) (x1 x2 : Int32)
    (h1 : (z_L_has_6 M x1 x2) = 0 → Q (some (.int 0)) M)
    (h2 : ¬ (z_L_has_6 M x1 x2) = 0 → ¬ (z_C_holds (M.1 6 3) (z_C_numberOf x1 x2)) = 0 → Q (some (.int 0)) M)
    (h3 : ¬ (z_L_has_6 M x1 x2) = 0 → (z_C_holds (M.1 6 3) (z_C_numberOf x1 x2)) = 0 → Q (some (.int 1)) M) :
    WX mi_L_isOpen 2 Q 0 [some (.ref 6), some (.int x1), some (.int x2)] [] M := by
  refine WX.run (pc' := 3) (L' := [some (.ref 6), some (.int x1), some (.int x2)]) (st' := [.int x2, .int x1, .ref 6]) (M' := M) (P := True) 3 rfl trivial ?_
  refine WX.callV (ca := mi_L_has) (n := 2) (d' := 1) (st := []) (As := [.int x1, .int x2]) (q := 6) rfl lk_3_37 ck_L_has cv_L_has rfl (by decide) rfl (Nat.le_of_ble_eq_true rfl) ⟨by decide, rfl, by decide⟩ (by intro w hw; simp only [List.mem_cons, List.not_mem_nil, or_false] at hw; rcases hw with rfl | rfl <;> rfl) (Nat.le_of_ble_eq_true rfl) ?_
  refine wx_L_has_6 M x1 x2 ?_
  show WX mi_L_isOpen 2 Q 6 [some (.ref 6), some (.int x1), some (.int x2)] [.int (z_L_has_6 M x1 x2)] M
  refine WX.if_eq (off := 22) (tgt := 28) rfl rfl (fun c1 => ?_) (fun c1 => ?_)
  · refine WX.run (pc' := 29) (L' := [some (.ref 6), some (.int x1), some (.int x2)]) (st' := [.int 0]) (M' := M) (P := True) 1 rfl trivial ?_
    exact WX.zret rfl rfl (Or.inl rfl) (h1 c1)
  · refine WX.run (pc' := 15) (L' := [some (.ref 6), some (.int x1), some (.int x2)]) (st' := [.int x2, .int x1, .int (M.1 6 3)]) (M' := M) (P := True) 4 rfl trivial ?_
    refine WX.callSN (ca := mi_C_numberOf) (n := 2) (d' := 1) (st := [.int (M.1 6 3)]) (As := [.int x1, .int x2]) rfl lk_3_41 ck_C_numberOf cs_C_numberOf rfl (by decide) rfl (Nat.le_of_ble_eq_true rfl) (by intro w hw; simp only [List.mem_cons, List.not_mem_nil, or_false] at hw; rcases hw with rfl | rfl <;> rfl) (Nat.le_of_ble_eq_true rfl) ?_
    refine wx_C_numberOf M x1 x2 ?_
    show WX mi_L_isOpen 2 Q 18 [some (.ref 6), some (.int x1), some (.int x2)] [.int (z_C_numberOf x1 x2), .int (M.1 6 3)] M
    refine WX.callSN (ca := mi_C_holds) (n := 2) (d' := 1) (st := []) (As := [.int (M.1 6 3), .int (z_C_numberOf x1 x2)]) rfl lk_3_45 ck_C_holds cs_C_holds rfl (by decide) rfl (Nat.le_of_ble_eq_true rfl) (by intro w hw; simp only [List.mem_cons, List.not_mem_nil, or_false] at hw; rcases hw with rfl | rfl <;> rfl) (Nat.le_of_ble_eq_true rfl) ?_
    refine wx_C_holds M (M.1 6 3) (z_C_numberOf x1 x2) ?_
    show WX mi_L_isOpen 2 Q 21 [some (.ref 6), some (.int x1), some (.int x2)] [.int (z_C_holds (M.1 6 3) (z_C_numberOf x1 x2))] M
    refine WX.if_ne (off := 7) (tgt := 28) rfl rfl (fun c2 => ?_) (fun c2 => ?_)
    · refine WX.run (pc' := 29) (L' := [some (.ref 6), some (.int x1), some (.int x2)]) (st' := [.int 0]) (M' := M) (P := True) 1 rfl trivial ?_
      exact WX.zret rfl rfl (Or.inl rfl) (h2 c1 c2)
    · refine WX.run (pc' := 29) (L' := [some (.ref 6), some (.int x1), some (.int x2)]) (st' := [.int 1]) (M' := M) (P := True) 2 rfl trivial ?_
      exact WX.zret rfl rfl (Or.inr rfl) (h3 c1 c2)
def z_L_isOpen_6 (M : Mem) (x1 x2 : Int32) : Int32 := (if (z_L_has_6 M x1 x2) = 0 then 0 else (if (z_C_holds (M.1 6 3) (z_C_numberOf x1 x2)) = 0 then 1 else 0))
theorem wx_L_isOpen_6 {Q : Option Value → Mem → Prop} (M : Mem) (x1 x2 : Int32)
    (h : Q (some (.int (z_L_isOpen_6 M x1 x2))) M) :
    WX mi_L_isOpen 2 Q 0 [some (.ref 6), some (.int x1), some (.int x2)] [] M := by
  refine sg_L_isOpen_6_0 M x1 x2
    (fun c1 => by
      unfold z_L_isOpen_6 at h
      rw [if_pos c1] at h
      exact h)
    (fun c1 c2 => by
      unfold z_L_isOpen_6 at h
      rw [if_neg c1, if_neg c2] at h
      exact h)
    (fun c1 c2 => by
      unfold z_L_isOpen_6 at h
      rw [if_neg c1, if_pos c2] at h
      exact h)
theorem sg_L_cells_6_0 {Q : Option Value → Mem → Prop} (M : Mem)
    (h1 : WX mi_L_cells 1 Q 13 [some (.ref 6), some (.int ((shl 1 (M.1 6 0)) - 1)), some (.int 0), some (.int 0)] [] M) :
    WX mi_L_cells 1 Q 0 [some (.ref 6), none, none, none] [] M := by
  refine WX.run (pc' := 13) (L' := [some (.ref 6), some (.int ((shl 1 (M.1 6 0)) - 1)), some (.int 0), some (.int 0)]) (st' := []) (M' := M) (P := True) 11 rfl trivial ?_
  exact h1
theorem sg_L_cells_6_13 {Q : Option Value → Mem → Prop} (M : Mem) (x1 x2 x3 : Int32)
    (h1 : (M.1 6 1) ≤ x3 → Q (some (.int x2)) M)
    (h2 : ¬ (M.1 6 1) ≤ x3 → WX mi_L_cells 1 Q 13 [some (.ref 6), some (.int x1), some (.int (x2 ||| (shl x1 (4 * x3)))), some (.int (x3 + 1))] [] M) :
    WX mi_L_cells 1 Q 13 [some (.ref 6), some (.int x1), some (.int x2), some (.int x3)] [] M := by
  refine WX.run (pc' := 18) (L' := [some (.ref 6), some (.int x1), some (.int x2), some (.int x3)]) (st' := [.int (M.1 6 1), .int x3]) (M' := M) (P := True) 3 rfl trivial ?_
  refine WX.icmp_ge (off := 17) (tgt := 35) rfl rfl (fun c1 => ?_) (fun c1 => ?_)
  · refine WX.run (pc' := 36) (L' := [some (.ref 6), some (.int x1), some (.int x2), some (.int x3)]) (st' := [.int x2]) (M' := M) (P := True) 1 rfl trivial ?_
    exact WX.iret rfl rfl (h1 c1)
  · refine WX.run (pc' := 13) (L' := [some (.ref 6), some (.int x1), some (.int (x2 ||| (shl x1 (4 * x3)))), some (.int (x3 + 1))]) (st' := []) (M' := M) (P := True) 10 rfl trivial ?_
    exact (h2 c1)
theorem sg_L_layable_6_0 {Q : Option Value → Mem → Prop} (M : Mem)
    (h1 : WX mi_L_cells 1 (fun rv M' => WX mi_L_layable 2 Q 4 [some (.ref 6)] (rv.toList ++ []) M') 0 [some (.ref 6), none, none, none] [] M) :
    WX mi_L_layable 2 Q 0 [some (.ref 6)] [] M := by
  refine WX.run (pc' := 1) (L' := [some (.ref 6)]) (st' := [.ref 6]) (M' := M) (P := True) 1 rfl trivial ?_
  refine WX.callV (ca := mi_L_cells) (n := 0) (d' := 1) (st := []) (As := []) (q := 6) rfl lk_3_48 ck_L_cells cv_L_cells rfl (by decide) rfl (Nat.le_of_ble_eq_true rfl) ⟨by decide, rfl, by decide⟩ (fun w hw => absurd hw List.not_mem_nil) (Nat.le_of_ble_eq_true rfl) ?_
  exact h1
theorem sg_L_layable_6_4 {Q : Option Value → Mem → Prop} (M : Mem) (r : Int32)
    (h1 : Q (some (.int ((r &&& ((M.1 6 3) ^^^ (-1))) &&& ((M.1 6 4) ^^^ (-1))))) M) :
    WX mi_L_layable 2 Q 4 [some (.ref 6)] [.int r] M := by
  refine WX.run (pc' := 18) (L' := [some (.ref 6)]) (st' := [.int ((r &&& ((M.1 6 3) ^^^ (-1))) &&& ((M.1 6 4) ^^^ (-1)))]) (M' := M) (P := True) 10 rfl trivial ?_
  exact WX.iret rfl rfl h1
theorem sg_L_sortOf_6_0 {Q : Option Value → Mem → Prop} (M : Mem) (x1 : Int32)
    (h1 : (z_C_holds (M.1 6 3) x1) = 0 → (z_C_holds (M.1 6 4) x1) = 0 → Q (some (.int 0)) M)
    (h2 : (z_C_holds (M.1 6 3) x1) = 0 → ¬ (z_C_holds (M.1 6 4) x1) = 0 → Q (some (.int 2)) M)
    (h3 : ¬ (z_C_holds (M.1 6 3) x1) = 0 → Q (some (.int 1)) M) :
    WX mi_L_sortOf 2 Q 0 [some (.ref 6), some (.int x1)] [] M := by
  refine WX.run (pc' := 5) (L' := [some (.ref 6), some (.int x1)]) (st' := [.int x1, .int (M.1 6 3)]) (M' := M) (P := True) 3 rfl trivial ?_
  refine WX.callSN (ca := mi_C_holds) (n := 2) (d' := 1) (st := []) (As := [.int (M.1 6 3), .int x1]) rfl lk_3_45 ck_C_holds cs_C_holds rfl (by decide) rfl (Nat.le_of_ble_eq_true rfl) (by intro w hw; simp only [List.mem_cons, List.not_mem_nil, or_false] at hw; rcases hw with rfl | rfl <;> rfl) (Nat.le_of_ble_eq_true rfl) ?_
  refine wx_C_holds M (M.1 6 3) x1 ?_
  show WX mi_L_sortOf 2 Q 8 [some (.ref 6), some (.int x1)] [.int (z_C_holds (M.1 6 3) x1)] M
  refine WX.if_eq (off := 5) (tgt := 13) rfl rfl (fun c1 => ?_) (fun c1 => ?_)
  · refine WX.run (pc' := 18) (L' := [some (.ref 6), some (.int x1)]) (st' := [.int x1, .int (M.1 6 4)]) (M' := M) (P := True) 3 rfl trivial ?_
    refine WX.callSN (ca := mi_C_holds) (n := 2) (d' := 1) (st := []) (As := [.int (M.1 6 4), .int x1]) rfl lk_3_45 ck_C_holds cs_C_holds rfl (by decide) rfl (Nat.le_of_ble_eq_true rfl) (by intro w hw; simp only [List.mem_cons, List.not_mem_nil, or_false] at hw; rcases hw with rfl | rfl <;> rfl) (Nat.le_of_ble_eq_true rfl) ?_
    refine wx_C_holds M (M.1 6 4) x1 ?_
    show WX mi_L_sortOf 2 Q 21 [some (.ref 6), some (.int x1)] [.int (z_C_holds (M.1 6 4) x1)] M
    refine WX.if_eq (off := 7) (tgt := 28) rfl rfl (fun c2 => ?_) (fun c2 => ?_)
    · refine WX.run (pc' := 29) (L' := [some (.ref 6), some (.int x1)]) (st' := [.int 0]) (M' := M) (P := True) 1 rfl trivial ?_
      exact WX.iret rfl rfl (h1 c1 c2)
    · refine WX.run (pc' := 29) (L' := [some (.ref 6), some (.int x1)]) (st' := [.int 2]) (M' := M) (P := True) 2 rfl trivial ?_
      exact WX.iret rfl rfl (h2 c1 c2)
  · refine WX.run (pc' := 12) (L' := [some (.ref 6), some (.int x1)]) (st' := [.int 1]) (M' := M) (P := True) 1 rfl trivial ?_
    exact WX.iret rfl rfl (h3 c1)
def z_L_sortOf_6 (M : Mem) (x1 : Int32) : Int32 := (if (z_C_holds (M.1 6 3) x1) = 0 then (if (z_C_holds (M.1 6 4) x1) = 0 then 0 else 2) else 1)
theorem wx_L_sortOf_6 {Q : Option Value → Mem → Prop} (M : Mem) (x1 : Int32)
    (h : Q (some (.int (z_L_sortOf_6 M x1))) M) :
    WX mi_L_sortOf 2 Q 0 [some (.ref 6), some (.int x1)] [] M := by
  refine sg_L_sortOf_6_0 M x1
    (fun c1 c2 => by
      unfold z_L_sortOf_6 at h
      rw [if_pos c1, if_pos c2] at h
      exact h)
    (fun c1 c2 => by
      unfold z_L_sortOf_6 at h
      rw [if_pos c1, if_neg c2] at h
      exact h)
    (fun c1 => by
      unfold z_L_sortOf_6 at h
      rw [if_neg c1] at h
      exact h)
theorem sg_L_sortOf_3_0 {Q : Option Value → Mem → Prop} (M : Mem) (x1 : Int32)
    (h1 : (z_C_holds (M.1 3 3) x1) = 0 → (z_C_holds (M.1 3 4) x1) = 0 → Q (some (.int 0)) M)
    (h2 : (z_C_holds (M.1 3 3) x1) = 0 → ¬ (z_C_holds (M.1 3 4) x1) = 0 → Q (some (.int 2)) M)
    (h3 : ¬ (z_C_holds (M.1 3 3) x1) = 0 → Q (some (.int 1)) M) :
    WX mi_L_sortOf 2 Q 0 [some (.ref 3), some (.int x1)] [] M := by
  refine WX.run (pc' := 5) (L' := [some (.ref 3), some (.int x1)]) (st' := [.int x1, .int (M.1 3 3)]) (M' := M) (P := True) 3 rfl trivial ?_
  refine WX.callSN (ca := mi_C_holds) (n := 2) (d' := 1) (st := []) (As := [.int (M.1 3 3), .int x1]) rfl lk_3_45 ck_C_holds cs_C_holds rfl (by decide) rfl (Nat.le_of_ble_eq_true rfl) (by intro w hw; simp only [List.mem_cons, List.not_mem_nil, or_false] at hw; rcases hw with rfl | rfl <;> rfl) (Nat.le_of_ble_eq_true rfl) ?_
  refine wx_C_holds M (M.1 3 3) x1 ?_
  show WX mi_L_sortOf 2 Q 8 [some (.ref 3), some (.int x1)] [.int (z_C_holds (M.1 3 3) x1)] M
  refine WX.if_eq (off := 5) (tgt := 13) rfl rfl (fun c1 => ?_) (fun c1 => ?_)
  · refine WX.run (pc' := 18) (L' := [some (.ref 3), some (.int x1)]) (st' := [.int x1, .int (M.1 3 4)]) (M' := M) (P := True) 3 rfl trivial ?_
    refine WX.callSN (ca := mi_C_holds) (n := 2) (d' := 1) (st := []) (As := [.int (M.1 3 4), .int x1]) rfl lk_3_45 ck_C_holds cs_C_holds rfl (by decide) rfl (Nat.le_of_ble_eq_true rfl) (by intro w hw; simp only [List.mem_cons, List.not_mem_nil, or_false] at hw; rcases hw with rfl | rfl <;> rfl) (Nat.le_of_ble_eq_true rfl) ?_
    refine wx_C_holds M (M.1 3 4) x1 ?_
    show WX mi_L_sortOf 2 Q 21 [some (.ref 3), some (.int x1)] [.int (z_C_holds (M.1 3 4) x1)] M
    refine WX.if_eq (off := 7) (tgt := 28) rfl rfl (fun c2 => ?_) (fun c2 => ?_)
    · refine WX.run (pc' := 29) (L' := [some (.ref 3), some (.int x1)]) (st' := [.int 0]) (M' := M) (P := True) 1 rfl trivial ?_
      exact WX.iret rfl rfl (h1 c1 c2)
    · refine WX.run (pc' := 29) (L' := [some (.ref 3), some (.int x1)]) (st' := [.int 2]) (M' := M) (P := True) 2 rfl trivial ?_
      exact WX.iret rfl rfl (h2 c1 c2)
  · refine WX.run (pc' := 12) (L' := [some (.ref 3), some (.int x1)]) (st' := [.int 1]) (M' := M) (P := True) 1 rfl trivial ?_
    exact WX.iret rfl rfl (h3 c1)
def z_L_sortOf_3 (M : Mem) (x1 : Int32) : Int32 := (if (z_C_holds (M.1 3 3) x1) = 0 then (if (z_C_holds (M.1 3 4) x1) = 0 then 0 else 2) else 1)
theorem wx_L_sortOf_3 {Q : Option Value → Mem → Prop} (M : Mem) (x1 : Int32)
    (h : Q (some (.int (z_L_sortOf_3 M x1))) M) :
    WX mi_L_sortOf 2 Q 0 [some (.ref 3), some (.int x1)] [] M := by
  refine sg_L_sortOf_3_0 M x1
    (fun c1 c2 => by
      unfold z_L_sortOf_3 at h
      rw [if_pos c1, if_pos c2] at h
      exact h)
    (fun c1 c2 => by
      unfold z_L_sortOf_3 at h
      rw [if_pos c1, if_neg c2] at h
      exact h)
    (fun c1 => by
      unfold z_L_sortOf_3 at h
      rw [if_neg c1] at h
      exact h)
theorem sg_L_wipe_3_0 {Q : Option Value → Mem → Prop} (M : Mem)
    (h1 : WX mi_L_wipe 1 Q 27 [some (.ref 3), some (.int 0)] [] (wr (wr (wr (wr (wr M 3 0 0) 3 1 0) 3 2 0) 3 3 0) 3 4 0)) :
    WX mi_L_wipe 1 Q 0 [some (.ref 3), none] [] M := by
  refine WX.run (pc' := 27) (L' := [some (.ref 3), some (.int 0)]) (st' := []) (M' := (wr (wr (wr (wr (wr M 3 0 0) 3 1 0) 3 2 0) 3 3 0) 3 4 0)) (P := True) 17 rfl trivial ?_
  exact h1
theorem sg_L_wipe_3_27 {Q : Option Value → Mem → Prop} (M : Mem) (x1 : Int32)
    (h1 : 16 ≤ x1 → WX mi_L_wipe 1 Q 48 [some (.ref 3), some (.int 0)] [] M)
    (b2 : ¬ 16 ≤ x1 → vp_in x1 16)
    (h3 : ¬ 16 ≤ x1 → WX mi_L_wipe 1 Q 27 [some (.ref 3), some (.int (x1 + 1))] [] (wr M 4 x1.toNatClampNeg 0)) :
    WX mi_L_wipe 1 Q 27 [some (.ref 3), some (.int x1)] [] M := by
  refine WX.run (pc' := 30) (L' := [some (.ref 3), some (.int x1)]) (st' := [.int 16, .int x1]) (M' := M) (P := True) 2 rfl trivial ?_
  refine WX.icmp_ge (off := 16) (tgt := 46) rfl rfl (fun c1 => ?_) (fun c1 => ?_)
  · refine WX.run (pc' := 48) (L' := [some (.ref 3), some (.int 0)]) (st' := []) (M' := M) (P := True) 2 rfl trivial ?_
    exact (h1 c1)
  · refine WX.run (pc' := 27) (L' := [some (.ref 3), some (.int (x1 + 1))]) (st' := []) (M' := (wr M 4 x1.toNatClampNeg 0)) (P := (True ∧ vp_in x1 16)) 7 rfl ⟨trivial, (b2 c1)⟩ ?_
    exact (h3 c1)
theorem sg_L_wipe_3_48 {Q : Option Value → Mem → Prop} (M : Mem) (x1 : Int32)
    (h1 : 4 ≤ x1 → Q none M)
    (b2 : ¬ 4 ≤ x1 → vp_in x1 4)
    (h3 : ¬ 4 ≤ x1 → WX mi_L_wipe 1 Q 48 [some (.ref 3), some (.int (x1 + 1))] [] (wr M 5 x1.toNatClampNeg 4)) :
    WX mi_L_wipe 1 Q 48 [some (.ref 3), some (.int x1)] [] M := by
  refine WX.run (pc' := 50) (L' := [some (.ref 3), some (.int x1)]) (st' := [.int 4, .int x1]) (M' := M) (P := True) 2 rfl trivial ?_
  refine WX.icmp_ge (off := 16) (tgt := 66) rfl rfl (fun c1 => ?_) (fun c1 => ?_)
  · exact WX.vret rfl rfl (h1 c1)
  · refine WX.run (pc' := 48) (L' := [some (.ref 3), some (.int (x1 + 1))]) (st' := []) (M' := (wr M 5 x1.toNatClampNeg 4)) (P := (True ∧ vp_in x1 4)) 7 rfl ⟨trivial, (b2 c1)⟩ ?_
    exact (h3 c1)
theorem sg_L_copyFrom_6_3_0 {Q : Option Value → Mem → Prop} (M : Mem)
    (h1 : WX mi_L_copyFrom 1 Q 42 [some (.ref 6), some (.ref 3), some (.int 0)] [] (wr (wr (wr (wr (wr M 6 0 (M.1 3 0)) 6 1 (M.1 3 1)) 6 2 (M.1 3 2)) 6 3 (M.1 3 3)) 6 4 (M.1 3 4))) :
    WX mi_L_copyFrom 1 Q 0 [some (.ref 6), some (.ref 3), none] [] M := by
  refine WX.run (pc' := 42) (L' := [some (.ref 6), some (.ref 3), some (.int 0)]) (st' := []) (M' := (wr (wr (wr (wr (wr M 6 0 (M.1 3 0)) 6 1 (M.1 3 1)) 6 2 (M.1 3 2)) 6 3 (M.1 3 3)) 6 4 (M.1 3 4))) (P := True) 22 rfl trivial ?_
  exact h1
theorem sg_L_copyFrom_6_3_42 {Q : Option Value → Mem → Prop} (M : Mem) (x2 : Int32)
    (h1 : 16 ≤ x2 → WX mi_L_copyFrom 1 Q 68 [some (.ref 6), some (.ref 3), some (.int 0)] [] M)
    (b2 : ¬ 16 ≤ x2 → vp_in x2 16)
    (h3 : ¬ 16 ≤ x2 → WX mi_L_copyFrom 1 Q 42 [some (.ref 6), some (.ref 3), some (.int (x2 + 1))] [] (wr M 7 x2.toNatClampNeg (M.1 4 x2.toNatClampNeg))) :
    WX mi_L_copyFrom 1 Q 42 [some (.ref 6), some (.ref 3), some (.int x2)] [] M := by
  refine WX.run (pc' := 45) (L' := [some (.ref 6), some (.ref 3), some (.int x2)]) (st' := [.int 16, .int x2]) (M' := M) (P := True) 2 rfl trivial ?_
  refine WX.icmp_ge (off := 21) (tgt := 66) rfl rfl (fun c1 => ?_) (fun c1 => ?_)
  · refine WX.run (pc' := 68) (L' := [some (.ref 6), some (.ref 3), some (.int 0)]) (st' := []) (M' := M) (P := True) 2 rfl trivial ?_
    exact (h1 c1)
  · refine WX.run (pc' := 42) (L' := [some (.ref 6), some (.ref 3), some (.int (x2 + 1))]) (st' := []) (M' := (wr M 7 x2.toNatClampNeg (M.1 4 x2.toNatClampNeg))) (P := ((True ∧ vp_in x2 16) ∧ vp_in x2 16)) 10 rfl ⟨⟨trivial, (b2 c1)⟩, (b2 c1)⟩ ?_
    exact (h3 c1)
theorem sg_L_copyFrom_6_3_68 {Q : Option Value → Mem → Prop} (M : Mem) (x2 : Int32)
    (h1 : 4 ≤ x2 → Q none M)
    (b2 : ¬ 4 ≤ x2 → vp_in x2 4)
    (h3 : ¬ 4 ≤ x2 → WX mi_L_copyFrom 1 Q 68 [some (.ref 6), some (.ref 3), some (.int (x2 + 1))] [] (wr M 8 x2.toNatClampNeg (M.1 5 x2.toNatClampNeg))) :
    WX mi_L_copyFrom 1 Q 68 [some (.ref 6), some (.ref 3), some (.int x2)] [] M := by
  refine WX.run (pc' := 70) (L' := [some (.ref 6), some (.ref 3), some (.int x2)]) (st' := [.int 4, .int x2]) (M' := M) (P := True) 2 rfl trivial ?_
  refine WX.icmp_ge (off := 21) (tgt := 91) rfl rfl (fun c1 => ?_) (fun c1 => ?_)
  · exact WX.vret rfl rfl (h1 c1)
  · refine WX.run (pc' := 68) (L' := [some (.ref 6), some (.ref 3), some (.int (x2 + 1))]) (st' := []) (M' := (wr M 8 x2.toNatClampNeg (M.1 5 x2.toNatClampNeg))) (P := ((True ∧ vp_in x2 4) ∧ vp_in x2 4)) 10 rfl ⟨⟨trivial, (b2 c1)⟩, (b2 c1)⟩ ?_
    exact (h3 c1)
theorem sg_G_sizeOf_9_0 {Q : Option Value → Mem → Prop} (M : Mem) (x1 : Int32)
    (h1 : (z_C_isNumber x1) = 0 → Q (some (.int (-9))) M)
    (b2 : ¬ (z_C_isNumber x1) = 0 → vp_in x1 16)
    (h3 : ¬ (z_C_isNumber x1) = 0 → Q (some (.int (M.1 11 x1.toNatClampNeg))) M) :
    WX mi_G_sizeOf 2 Q 0 [some (.ref 9), some (.int x1)] [] M := by
  refine WX.run (pc' := 1) (L' := [some (.ref 9), some (.int x1)]) (st' := [.int x1]) (M' := M) (P := True) 1 rfl trivial ?_
  refine WX.callSN (ca := mi_C_isNumber) (n := 1) (d' := 1) (st := []) (As := [.int x1]) rfl lk_0_74 ck_C_isNumber cs_C_isNumber rfl (by decide) rfl (Nat.le_of_ble_eq_true rfl) (by intro w hw; simp only [List.mem_cons, List.not_mem_nil, or_false] at hw; rcases hw with rfl <;> rfl) (Nat.le_of_ble_eq_true rfl) ?_
  refine wx_C_isNumber M x1 ?_
  show WX mi_G_sizeOf 2 Q 4 [some (.ref 9), some (.int x1)] [.int (z_C_isNumber x1)] M
  refine WX.if_eq (off := 12) (tgt := 16) rfl rfl (fun c1 => ?_) (fun c1 => ?_)
  · refine WX.run (pc' := 18) (L' := [some (.ref 9), some (.int x1)]) (st' := [.int (-9)]) (M' := M) (P := True) 1 rfl trivial ?_
    exact WX.iret rfl rfl (h1 c1)
  · refine WX.run (pc' := 18) (L' := [some (.ref 9), some (.int x1)]) (st' := [.int (M.1 11 x1.toNatClampNeg)]) (M' := M) (P := (True ∧ vp_in x1 16)) 5 rfl ⟨trivial, (b2 c1)⟩ ?_
    exact WX.iret rfl rfl (h3 c1)
def z_G_sizeOf_9 (M : Mem) (x1 : Int32) : Int32 := (if (z_C_isNumber x1) = 0 then (-9) else (M.1 11 x1.toNatClampNeg))
theorem wx_G_sizeOf_9 {Q : Option Value → Mem → Prop} (M : Mem) (x1 : Int32)
    (b2 : ¬ (z_C_isNumber x1) = 0 → vp_in x1 16)
    (h : Q (some (.int (z_G_sizeOf_9 M x1))) M) :
    WX mi_G_sizeOf 2 Q 0 [some (.ref 9), some (.int x1)] [] M := by
  refine sg_G_sizeOf_9_0 M x1
    (fun c1 => by
      unfold z_G_sizeOf_9 at h
      rw [if_pos c1] at h
      exact h)
    b2
    (fun c1 => by
      unfold z_G_sizeOf_9 at h
      rw [if_neg c1] at h
      exact h)
theorem wx_G_sizeOf_9b {Q : Option Value → Mem → Prop} (M : Mem) (x1 : Int32) (b : vp_in x1 16)
    (h : Q (some (.int (M.1 11 x1.toNatClampNeg))) M) :
    WX mi_G_sizeOf 2 Q 0 [some (.ref 9), some (.int x1)] [] M := by
  refine wx_G_sizeOf_9 M x1 (fun _ => b) ?_
  rw [show z_G_sizeOf_9 M x1 = M.1 11 x1.toNatClampNeg from if_neg (isNum_of_in b)]
  exact h
theorem wx_G_sizeOf_9f {Q : Option Value → Mem → Prop} (M : Mem) (x1 : Int32)
    (h : Q (some (.int (z_G_sizeOf_9 M x1))) M) :
    WX mi_G_sizeOf 2 Q 0 [some (.ref 9), some (.int x1)] [] M := wx_G_sizeOf_9 M x1 in_of_isNum h
theorem sg_G_heightOf_9_0 {Q : Option Value → Mem → Prop} (M : Mem) (x1 : Int32)
    (h1 : (z_C_isNumber x1) = 0 → Q (some (.int 0)) M)
    (b2 : ¬ (z_C_isNumber x1) = 0 → vp_in x1 16)
    (h3 : ¬ (z_C_isNumber x1) = 0 → Q (some (.int (M.1 10 x1.toNatClampNeg))) M) :
    WX mi_G_heightOf 2 Q 0 [some (.ref 9), some (.int x1)] [] M := by
  refine WX.run (pc' := 1) (L' := [some (.ref 9), some (.int x1)]) (st' := [.int x1]) (M' := M) (P := True) 1 rfl trivial ?_
  refine WX.callSN (ca := mi_C_isNumber) (n := 1) (d' := 1) (st := []) (As := [.int x1]) rfl lk_0_74 ck_C_isNumber cs_C_isNumber rfl (by decide) rfl (Nat.le_of_ble_eq_true rfl) (by intro w hw; simp only [List.mem_cons, List.not_mem_nil, or_false] at hw; rcases hw with rfl <;> rfl) (Nat.le_of_ble_eq_true rfl) ?_
  refine wx_C_isNumber M x1 ?_
  show WX mi_G_heightOf 2 Q 4 [some (.ref 9), some (.int x1)] [.int (z_C_isNumber x1)] M
  refine WX.if_eq (off := 12) (tgt := 16) rfl rfl (fun c1 => ?_) (fun c1 => ?_)
  · refine WX.run (pc' := 17) (L' := [some (.ref 9), some (.int x1)]) (st' := [.int 0]) (M' := M) (P := True) 1 rfl trivial ?_
    exact WX.iret rfl rfl (h1 c1)
  · refine WX.run (pc' := 17) (L' := [some (.ref 9), some (.int x1)]) (st' := [.int (M.1 10 x1.toNatClampNeg)]) (M' := M) (P := (True ∧ vp_in x1 16)) 5 rfl ⟨trivial, (b2 c1)⟩ ?_
    exact WX.iret rfl rfl (h3 c1)
def z_G_heightOf_9 (M : Mem) (x1 : Int32) : Int32 := (if (z_C_isNumber x1) = 0 then 0 else (M.1 10 x1.toNatClampNeg))
theorem wx_G_heightOf_9 {Q : Option Value → Mem → Prop} (M : Mem) (x1 : Int32)
    (b2 : ¬ (z_C_isNumber x1) = 0 → vp_in x1 16)
    (h : Q (some (.int (z_G_heightOf_9 M x1))) M) :
    WX mi_G_heightOf 2 Q 0 [some (.ref 9), some (.int x1)] [] M := by
  refine sg_G_heightOf_9_0 M x1
    (fun c1 => by
      unfold z_G_heightOf_9 at h
      rw [if_pos c1] at h
      exact h)
    b2
    (fun c1 => by
      unfold z_G_heightOf_9 at h
      rw [if_neg c1] at h
      exact h)
theorem wx_G_heightOf_9b {Q : Option Value → Mem → Prop} (M : Mem) (x1 : Int32) (b : vp_in x1 16)
    (h : Q (some (.int (M.1 10 x1.toNatClampNeg))) M) :
    WX mi_G_heightOf 2 Q 0 [some (.ref 9), some (.int x1)] [] M := by
  refine wx_G_heightOf_9 M x1 (fun _ => b) ?_
  rw [show z_G_heightOf_9 M x1 = M.1 10 x1.toNatClampNeg from if_neg (isNum_of_in b)]
  exact h
theorem sg_G_setHeight_9_0 {Q : Option Value → Mem → Prop} (M : Mem) (x1 x2 : Int32)
    (h1 : (z_C_isNumber x1) = 0 → Q none M)
    (b2 : ¬ (z_C_isNumber x1) = 0 → vp_in x1 16)
    (h3 : ¬ (z_C_isNumber x1) = 0 → Q none (wr M 10 x1.toNatClampNeg x2)) :
    WX mi_G_setHeight 2 Q 0 [some (.ref 9), some (.int x1), some (.int x2)] [] M := by
  refine WX.run (pc' := 1) (L' := [some (.ref 9), some (.int x1), some (.int x2)]) (st' := [.int x1]) (M' := M) (P := True) 1 rfl trivial ?_
  refine WX.callSN (ca := mi_C_isNumber) (n := 1) (d' := 1) (st := []) (As := [.int x1]) rfl lk_0_74 ck_C_isNumber cs_C_isNumber rfl (by decide) rfl (Nat.le_of_ble_eq_true rfl) (by intro w hw; simp only [List.mem_cons, List.not_mem_nil, or_false] at hw; rcases hw with rfl <;> rfl) (Nat.le_of_ble_eq_true rfl) ?_
  refine wx_C_isNumber M x1 ?_
  show WX mi_G_setHeight 2 Q 4 [some (.ref 9), some (.int x1), some (.int x2)] [.int (z_C_isNumber x1)] M
  refine WX.if_eq (off := 10) (tgt := 14) rfl rfl (fun c1 => ?_) (fun c1 => ?_)
  · exact WX.vret rfl rfl (h1 c1)
  · refine WX.run (pc' := 14) (L' := [some (.ref 9), some (.int x1), some (.int x2)]) (st' := []) (M' := (wr M 10 x1.toNatClampNeg x2)) (P := (True ∧ vp_in x1 16)) 5 rfl ⟨trivial, (b2 c1)⟩ ?_
    exact WX.vret rfl rfl (h3 c1)
theorem wx_G_setHeight_9b {Q : Option Value → Mem → Prop} (M : Mem) (x1 x2 : Int32) (b : vp_in x1 16)
    (h : Q none (wr M 10 x1.toNatClampNeg x2)) :
    WX mi_G_setHeight 2 Q 0 [some (.ref 9), some (.int x1), some (.int x2)] [] M :=
  sg_G_setHeight_9_0 M x1 x2 (fun q => absurd q (isNum_of_in b)) (fun _ => b) (fun _ => h)
theorem sg_G_cellsOf_9_0 {Q : Option Value → Mem → Prop} (M : Mem) (x1 : Int32)
    (b1 : vp_in x1 16)
    (b2 : ¬ (M.1 11 x1.toNatClampNeg) < 0 → ¬ 4 ≤ (M.1 11 x1.toNatClampNeg) → vp_in (M.1 11 x1.toNatClampNeg) 4)
    (h3 : Q (some (.int (z_C_bitsAt_100 (M.1 11 x1.toNatClampNeg) x1))) M) :
    WX mi_G_cellsOf 3 Q 0 [some (.ref 9), some (.int x1)] [] M := by
  refine WX.run (pc' := 5) (L' := [some (.ref 9), some (.int x1)]) (st' := [.int x1, .ref 9, .ref 100]) (M' := M) (P := True) 3 rfl trivial ?_
  refine WX.callV (ca := mi_G_sizeOf) (n := 1) (d' := 2) (st := [.ref 100]) (As := [.int x1]) (q := 9) rfl lk_0_52 ck_G_sizeOf cv_G_sizeOf rfl (by decide) rfl (Nat.le_of_ble_eq_true rfl) ⟨by decide, rfl, by decide⟩ (by intro w hw; simp only [List.mem_cons, List.not_mem_nil, or_false] at hw; rcases hw with rfl <;> rfl) (Nat.le_of_ble_eq_true rfl) ?_
  refine wx_G_sizeOf_9b M x1 b1 ?_
  show WX mi_G_cellsOf 3 Q 8 [some (.ref 9), some (.int x1)] [.int (M.1 11 x1.toNatClampNeg), .ref 100] M
  refine WX.run (pc' := 9) (L' := [some (.ref 9), some (.int x1)]) (st' := [.int x1, .int (M.1 11 x1.toNatClampNeg), .ref 100]) (M' := M) (P := True) 1 rfl trivial ?_
  refine WX.callSN (ca := mi_C_bitsAt) (n := 3) (d' := 1) (st := []) (As := [.ref 100, .int (M.1 11 x1.toNatClampNeg), .int x1]) rfl lk_0_87 ck_C_bitsAt cs_C_bitsAt rfl (by decide) rfl (Nat.le_of_ble_eq_true rfl) (by intro w hw; simp only [List.mem_cons, List.not_mem_nil, or_false] at hw; rcases hw with rfl | rfl | rfl <;> rfl) (Nat.le_of_ble_eq_true rfl) ?_
  refine wx_C_bitsAt_100 M (M.1 11 x1.toNatClampNeg) x1 b2 ?_
  show WX mi_G_cellsOf 3 Q 12 [some (.ref 9), some (.int x1)] [.int (z_C_bitsAt_100 (M.1 11 x1.toNatClampNeg) x1)] M
  exact WX.iret rfl rfl h3
def z_G_cellsOf_9 (M : Mem) (x1 : Int32) : Int32 := (z_C_bitsAt_100 (M.1 11 x1.toNatClampNeg) x1)
theorem wx_G_cellsOf_9 {Q : Option Value → Mem → Prop} (M : Mem) (x1 : Int32)
    (b1 : vp_in x1 16)
    (b2 : ¬ (M.1 11 x1.toNatClampNeg) < 0 → ¬ 4 ≤ (M.1 11 x1.toNatClampNeg) → vp_in (M.1 11 x1.toNatClampNeg) 4)
    (h : Q (some (.int (z_G_cellsOf_9 M x1))) M) :
    WX mi_G_cellsOf 3 Q 0 [some (.ref 9), some (.int x1)] [] M := by
  refine sg_G_cellsOf_9_0 M x1
    b1
    b2
    (by
      unfold z_G_cellsOf_9 at h
      exact h)
theorem sg_G_isTodays_9_0 {Q : Option Value → Mem → Prop} (M : Mem) (x1 : Int32)
    (h1 : x1 = (-9) → Q (some (.int 0)) M)
    (h2 : ¬ x1 = (-9) → (z_C_holds (M.1 9 3) x1) = 0 → Q (some (.int 0)) M)
    (h3 : ¬ x1 = (-9) → ¬ (z_C_holds (M.1 9 3) x1) = 0 → Q (some (.int 1)) M) :
    WX mi_G_isTodays 2 Q 0 [some (.ref 9), some (.int x1)] [] M := by
  refine WX.run (pc' := 3) (L' := [some (.ref 9), some (.int x1)]) (st' := [.int (-9), .int x1]) (M' := M) (P := True) 2 rfl trivial ?_
  refine WX.icmp_eq (off := 18) (tgt := 21) rfl rfl (fun c1 => ?_) (fun c1 => ?_)
  · refine WX.run (pc' := 22) (L' := [some (.ref 9), some (.int x1)]) (st' := [.int 0]) (M' := M) (P := True) 1 rfl trivial ?_
    exact WX.zret rfl rfl (Or.inl rfl) (h1 c1)
  · refine WX.run (pc' := 11) (L' := [some (.ref 9), some (.int x1)]) (st' := [.int x1, .int (M.1 9 3)]) (M' := M) (P := True) 3 rfl trivial ?_
    refine WX.callSN (ca := mi_C_holds) (n := 2) (d' := 1) (st := []) (As := [.int (M.1 9 3), .int x1]) rfl lk_0_80 ck_C_holds cs_C_holds rfl (by decide) rfl (Nat.le_of_ble_eq_true rfl) (by intro w hw; simp only [List.mem_cons, List.not_mem_nil, or_false] at hw; rcases hw with rfl | rfl <;> rfl) (Nat.le_of_ble_eq_true rfl) ?_
    refine wx_C_holds M (M.1 9 3) x1 ?_
    show WX mi_G_isTodays 2 Q 14 [some (.ref 9), some (.int x1)] [.int (z_C_holds (M.1 9 3) x1)] M
    refine WX.if_eq (off := 7) (tgt := 21) rfl rfl (fun c2 => ?_) (fun c2 => ?_)
    · refine WX.run (pc' := 22) (L' := [some (.ref 9), some (.int x1)]) (st' := [.int 0]) (M' := M) (P := True) 1 rfl trivial ?_
      exact WX.zret rfl rfl (Or.inl rfl) (h2 c1 c2)
    · refine WX.run (pc' := 22) (L' := [some (.ref 9), some (.int x1)]) (st' := [.int 1]) (M' := M) (P := True) 2 rfl trivial ?_
      exact WX.zret rfl rfl (Or.inr rfl) (h3 c1 c2)
def z_G_isTodays_9 (M : Mem) (x1 : Int32) : Int32 := (if x1 = (-9) then 0 else (if (z_C_holds (M.1 9 3) x1) = 0 then 0 else 1))
theorem wx_G_isTodays_9 {Q : Option Value → Mem → Prop} (M : Mem) (x1 : Int32)
    (h : Q (some (.int (z_G_isTodays_9 M x1))) M) :
    WX mi_G_isTodays 2 Q 0 [some (.ref 9), some (.int x1)] [] M := by
  refine sg_G_isTodays_9_0 M x1
    (fun c1 => by
      unfold z_G_isTodays_9 at h
      rw [if_pos c1] at h
      exact h)
    (fun c1 c2 => by
      unfold z_G_isTodays_9 at h
      rw [if_neg c1, if_pos c2] at h
      exact h)
    (fun c1 c2 => by
      unfold z_G_isTodays_9 at h
      rw [if_neg c1, if_neg c2] at h
      exact h)
theorem sg_G_slabOn_9_0 {Q : Option Value → Mem → Prop} (M : Mem) (x1 : Int32)
    (h1 : WX mi_G_slabOn 4 Q 2 [some (.ref 9), some (.int x1), some (.int 0)] [] M) :
    WX mi_G_slabOn 4 Q 0 [some (.ref 9), some (.int x1), none] [] M := by
  refine WX.run (pc' := 2) (L' := [some (.ref 9), some (.int x1), some (.int 0)]) (st' := []) (M' := M) (P := True) 2 rfl trivial ?_
  exact h1
theorem sg_G_slabOn_9_2 {Q : Option Value → Mem → Prop} (M : Mem) (x1 x2 : Int32)
    (h1 : 16 ≤ x2 → Q (some (.int (-9))) M)
    (b2 : ¬ 16 ≤ x2 → vp_in x2 16)
    (b3 : ¬ 16 ≤ x2 → ¬ (M.1 11 x2.toNatClampNeg) < 0 → ¬ 4 ≤ (M.1 11 x2.toNatClampNeg) → vp_in (M.1 11 x2.toNatClampNeg) 4)
    (h4 : ¬ 16 ≤ x2 → (z_C_holds (z_G_cellsOf_9 M x2) x1) = 0 → WX mi_G_slabOn 4 Q 2 [some (.ref 9), some (.int x1), some (.int (x2 + 1))] [] M)
    (h5 : ¬ 16 ≤ x2 → ¬ (z_C_holds (z_G_cellsOf_9 M x2) x1) = 0 → Q (some (.int x2)) M) :
    WX mi_G_slabOn 4 Q 2 [some (.ref 9), some (.int x1), some (.int x2)] [] M := by
  refine WX.run (pc' := 5) (L' := [some (.ref 9), some (.int x1), some (.int x2)]) (st' := [.int 16, .int x2]) (M' := M) (P := True) 2 rfl trivial ?_
  refine WX.icmp_ge (off := 23) (tgt := 28) rfl rfl (fun c1 => ?_) (fun c1 => ?_)
  · refine WX.run (pc' := 30) (L' := [some (.ref 9), some (.int x1), some (.int x2)]) (st' := [.int (-9)]) (M' := M) (P := True) 1 rfl trivial ?_
    exact WX.iret rfl rfl (h1 c1)
  · refine WX.run (pc' := 10) (L' := [some (.ref 9), some (.int x1), some (.int x2)]) (st' := [.int x2, .ref 9]) (M' := M) (P := True) 2 rfl trivial ?_
    refine WX.callV (ca := mi_G_cellsOf) (n := 1) (d' := 3) (st := []) (As := [.int x2]) (q := 9) rfl lk_0_77 ck_G_cellsOf cv_G_cellsOf rfl (by decide) rfl (Nat.le_of_ble_eq_true rfl) ⟨by decide, rfl, by decide⟩ (by intro w hw; simp only [List.mem_cons, List.not_mem_nil, or_false] at hw; rcases hw with rfl <;> rfl) (Nat.le_of_ble_eq_true rfl) ?_
    refine wx_G_cellsOf_9 M x2 (b2 c1) (b3 c1) ?_
    show WX mi_G_slabOn 4 Q 13 [some (.ref 9), some (.int x1), some (.int x2)] [.int (z_G_cellsOf_9 M x2)] M
    refine WX.run (pc' := 14) (L' := [some (.ref 9), some (.int x1), some (.int x2)]) (st' := [.int x1, .int (z_G_cellsOf_9 M x2)]) (M' := M) (P := True) 1 rfl trivial ?_
    refine WX.callSN (ca := mi_C_holds) (n := 2) (d' := 1) (st := []) (As := [.int (z_G_cellsOf_9 M x2), .int x1]) rfl lk_0_80 ck_C_holds cs_C_holds rfl (by decide) rfl (Nat.le_of_ble_eq_true rfl) (by intro w hw; simp only [List.mem_cons, List.not_mem_nil, or_false] at hw; rcases hw with rfl | rfl <;> rfl) (Nat.le_of_ble_eq_true rfl) ?_
    refine wx_C_holds M (z_G_cellsOf_9 M x2) x1 ?_
    show WX mi_G_slabOn 4 Q 17 [some (.ref 9), some (.int x1), some (.int x2)] [.int (z_C_holds (z_G_cellsOf_9 M x2) x1)] M
    refine WX.if_eq (off := 5) (tgt := 22) rfl rfl (fun c2 => ?_) (fun c2 => ?_)
    · refine WX.run (pc' := 2) (L' := [some (.ref 9), some (.int x1), some (.int (x2 + 1))]) (st' := []) (M' := M) (P := True) 2 rfl trivial ?_
      exact (h4 c1 c2)
    · refine WX.run (pc' := 21) (L' := [some (.ref 9), some (.int x1), some (.int x2)]) (st' := [.int x2]) (M' := M) (P := True) 1 rfl trivial ?_
      exact WX.iret rfl rfl (h5 c1 c2)
theorem sg_G_slabCount_9_0 {Q : Option Value → Mem → Prop} (M : Mem)
    (h1 : WX mi_G_slabCount 1 Q 4 [some (.ref 9), some (.int 0), some (.int 0)] [] M) :
    WX mi_G_slabCount 1 Q 0 [some (.ref 9), none, none] [] M := by
  refine WX.run (pc' := 4) (L' := [some (.ref 9), some (.int 0), some (.int 0)]) (st' := []) (M' := M) (P := True) 4 rfl trivial ?_
  exact h1
theorem sg_G_slabCount_9_4 {Q : Option Value → Mem → Prop} (M : Mem) (x1 x2 : Int32)
    (h1 : 16 ≤ x2 → Q (some (.int x1)) M)
    (b2 : ¬ 16 ≤ x2 → vp_in x2 16)
    (h3 : ¬ 16 ≤ x2 → (M.1 11 x2.toNatClampNeg) = (-9) → WX mi_G_slabCount 1 Q 4 [some (.ref 9), some (.int x1), some (.int (x2 + 1))] [] M)
    (h4 : ¬ 16 ≤ x2 → ¬ (M.1 11 x2.toNatClampNeg) = (-9) → WX mi_G_slabCount 1 Q 4 [some (.ref 9), some (.int (x1 + 1)), some (.int (x2 + 1))] [] M) :
    WX mi_G_slabCount 1 Q 4 [some (.ref 9), some (.int x1), some (.int x2)] [] M := by
  refine WX.run (pc' := 7) (L' := [some (.ref 9), some (.int x1), some (.int x2)]) (st' := [.int 16, .int x2]) (M' := M) (P := True) 2 rfl trivial ?_
  refine WX.icmp_ge (off := 23) (tgt := 30) rfl rfl (fun c1 => ?_) (fun c1 => ?_)
  · refine WX.run (pc' := 31) (L' := [some (.ref 9), some (.int x1), some (.int x2)]) (st' := [.int x1]) (M' := M) (P := True) 1 rfl trivial ?_
    exact WX.iret rfl rfl (h1 c1)
  · refine WX.run (pc' := 18) (L' := [some (.ref 9), some (.int x1), some (.int x2)]) (st' := [.int (-9), .int (M.1 11 x2.toNatClampNeg)]) (M' := M) (P := (True ∧ vp_in x2 16)) 5 rfl ⟨trivial, (b2 c1)⟩ ?_
    refine WX.icmp_eq (off := 6) (tgt := 24) rfl rfl (fun c2 => ?_) (fun c2 => ?_)
    · refine WX.run (pc' := 4) (L' := [some (.ref 9), some (.int x1), some (.int (x2 + 1))]) (st' := []) (M' := M) (P := True) 2 rfl trivial ?_
      exact (h3 c1 c2)
    · refine WX.run (pc' := 4) (L' := [some (.ref 9), some (.int (x1 + 1)), some (.int (x2 + 1))]) (st' := []) (M' := M) (P := True) 3 rfl trivial ?_
      exact (h4 c1 c2)
theorem sg_G_joined_9_100_0 {Q : Option Value → Mem → Prop} (M : Mem)
    (h1 : WX mi_G_joined 2 Q 4 [some (.ref 9), some (.ref 100), some (.int 0), some (.int 0)] [] M) :
    WX mi_G_joined 2 Q 0 [some (.ref 9), some (.ref 100), none, none] [] M := by
  refine WX.run (pc' := 4) (L' := [some (.ref 9), some (.ref 100), some (.int 0), some (.int 0)]) (st' := []) (M' := M) (P := True) 4 rfl trivial ?_
  exact h1
theorem sg_G_joined_9_100_4 {Q : Option Value → Mem → Prop} (M : Mem) (x2 x3 : Int32)
    (h1 : 16 ≤ x3 → Q (some (.int x2)) M)
    (b2 : ¬ 16 ≤ x3 → vp_in x3 16)
    (b3 : ¬ 16 ≤ x3 → ¬ (M.1 11 x3.toNatClampNeg) < 0 → ¬ 4 ≤ (M.1 11 x3.toNatClampNeg) → vp_in (M.1 11 x3.toNatClampNeg) 4)
    (h4 : ¬ 16 ≤ x3 → WX mi_G_joined 2 Q 4 [some (.ref 9), some (.ref 100), some (.int (x2 ||| (z_C_bitsAt_100 (M.1 11 x3.toNatClampNeg) x3))), some (.int (x3 + 1))] [] M) :
    WX mi_G_joined 2 Q 4 [some (.ref 9), some (.ref 100), some (.int x2), some (.int x3)] [] M := by
  refine WX.run (pc' := 7) (L' := [some (.ref 9), some (.ref 100), some (.int x2), some (.int x3)]) (st' := [.int 16, .int x3]) (M' := M) (P := True) 2 rfl trivial ?_
  refine WX.icmp_ge (off := 23) (tgt := 30) rfl rfl (fun c1 => ?_) (fun c1 => ?_)
  · refine WX.run (pc' := 31) (L' := [some (.ref 9), some (.ref 100), some (.int x2), some (.int x3)]) (st' := [.int x2]) (M' := M) (P := True) 1 rfl trivial ?_
    exact WX.iret rfl rfl (h1 c1)
  · refine WX.run (pc' := 19) (L' := [some (.ref 9), some (.ref 100), some (.int x2), some (.int x3)]) (st' := [.int x3, .int (M.1 11 x3.toNatClampNeg), .ref 100, .int x2]) (M' := M) (P := (True ∧ vp_in x3 16)) 7 rfl ⟨trivial, (b2 c1)⟩ ?_
    refine WX.callSN (ca := mi_C_bitsAt) (n := 3) (d' := 1) (st := [.int x2]) (As := [.ref 100, .int (M.1 11 x3.toNatClampNeg), .int x3]) rfl lk_0_87 ck_C_bitsAt cs_C_bitsAt rfl (by decide) rfl (Nat.le_of_ble_eq_true rfl) (by intro w hw; simp only [List.mem_cons, List.not_mem_nil, or_false] at hw; rcases hw with rfl | rfl | rfl <;> rfl) (Nat.le_of_ble_eq_true rfl) ?_
    refine wx_C_bitsAt_100 M (M.1 11 x3.toNatClampNeg) x3 (b3 c1) ?_
    show WX mi_G_joined 2 Q 22 [some (.ref 9), some (.ref 100), some (.int x2), some (.int x3)] [.int (z_C_bitsAt_100 (M.1 11 x3.toNatClampNeg) x3), .int x2] M
    refine WX.run (pc' := 4) (L' := [some (.ref 9), some (.ref 100), some (.int (x2 ||| (z_C_bitsAt_100 (M.1 11 x3.toNatClampNeg) x3))), some (.int (x3 + 1))]) (st' := []) (M' := M) (P := True) 4 rfl trivial ?_
    exact (h4 c1)
theorem sg_G_joined_9_102_0 {Q : Option Value → Mem → Prop} (M : Mem)
    (h1 : WX mi_G_joined 2 Q 4 [some (.ref 9), some (.ref 102), some (.int 0), some (.int 0)] [] M) :
    WX mi_G_joined 2 Q 0 [some (.ref 9), some (.ref 102), none, none] [] M := by
  refine WX.run (pc' := 4) (L' := [some (.ref 9), some (.ref 102), some (.int 0), some (.int 0)]) (st' := []) (M' := M) (P := True) 4 rfl trivial ?_
  exact h1
theorem sg_G_joined_9_102_4 {Q : Option Value → Mem → Prop} (M : Mem) (x2 x3 : Int32)
    (h1 : 16 ≤ x3 → Q (some (.int x2)) M)
    (b2 : ¬ 16 ≤ x3 → vp_in x3 16)
    (b3 : ¬ 16 ≤ x3 → ¬ (M.1 11 x3.toNatClampNeg) < 0 → ¬ 4 ≤ (M.1 11 x3.toNatClampNeg) → vp_in (M.1 11 x3.toNatClampNeg) 4)
    (h4 : ¬ 16 ≤ x3 → WX mi_G_joined 2 Q 4 [some (.ref 9), some (.ref 102), some (.int (x2 ||| (z_C_bitsAt_102 (M.1 11 x3.toNatClampNeg) x3))), some (.int (x3 + 1))] [] M) :
    WX mi_G_joined 2 Q 4 [some (.ref 9), some (.ref 102), some (.int x2), some (.int x3)] [] M := by
  refine WX.run (pc' := 7) (L' := [some (.ref 9), some (.ref 102), some (.int x2), some (.int x3)]) (st' := [.int 16, .int x3]) (M' := M) (P := True) 2 rfl trivial ?_
  refine WX.icmp_ge (off := 23) (tgt := 30) rfl rfl (fun c1 => ?_) (fun c1 => ?_)
  · refine WX.run (pc' := 31) (L' := [some (.ref 9), some (.ref 102), some (.int x2), some (.int x3)]) (st' := [.int x2]) (M' := M) (P := True) 1 rfl trivial ?_
    exact WX.iret rfl rfl (h1 c1)
  · refine WX.run (pc' := 19) (L' := [some (.ref 9), some (.ref 102), some (.int x2), some (.int x3)]) (st' := [.int x3, .int (M.1 11 x3.toNatClampNeg), .ref 102, .int x2]) (M' := M) (P := (True ∧ vp_in x3 16)) 7 rfl ⟨trivial, (b2 c1)⟩ ?_
    refine WX.callSN (ca := mi_C_bitsAt) (n := 3) (d' := 1) (st := [.int x2]) (As := [.ref 102, .int (M.1 11 x3.toNatClampNeg), .int x3]) rfl lk_0_87 ck_C_bitsAt cs_C_bitsAt rfl (by decide) rfl (Nat.le_of_ble_eq_true rfl) (by intro w hw; simp only [List.mem_cons, List.not_mem_nil, or_false] at hw; rcases hw with rfl | rfl | rfl <;> rfl) (Nat.le_of_ble_eq_true rfl) ?_
    refine wx_C_bitsAt_102 M (M.1 11 x3.toNatClampNeg) x3 (b3 c1) ?_
    show WX mi_G_joined 2 Q 22 [some (.ref 9), some (.ref 102), some (.int x2), some (.int x3)] [.int (z_C_bitsAt_102 (M.1 11 x3.toNatClampNeg) x3), .int x2] M
    refine WX.run (pc' := 4) (L' := [some (.ref 9), some (.ref 102), some (.int (x2 ||| (z_C_bitsAt_102 (M.1 11 x3.toNatClampNeg) x3))), some (.int (x3 + 1))]) (st' := []) (M' := M) (P := True) 4 rfl trivial ?_
    exact (h4 c1)
theorem sg_G_joined_9_103_0 {Q : Option Value → Mem → Prop} (M : Mem)
    (h1 : WX mi_G_joined 2 Q 4 [some (.ref 9), some (.ref 103), some (.int 0), some (.int 0)] [] M) :
    WX mi_G_joined 2 Q 0 [some (.ref 9), some (.ref 103), none, none] [] M := by
  refine WX.run (pc' := 4) (L' := [some (.ref 9), some (.ref 103), some (.int 0), some (.int 0)]) (st' := []) (M' := M) (P := True) 4 rfl trivial ?_
  exact h1
theorem sg_G_joined_9_103_4 {Q : Option Value → Mem → Prop} (M : Mem) (x2 x3 : Int32)
    (h1 : 16 ≤ x3 → Q (some (.int x2)) M)
    (b2 : ¬ 16 ≤ x3 → vp_in x3 16)
    (b3 : ¬ 16 ≤ x3 → ¬ (M.1 11 x3.toNatClampNeg) < 0 → ¬ 4 ≤ (M.1 11 x3.toNatClampNeg) → vp_in (M.1 11 x3.toNatClampNeg) 4)
    (h4 : ¬ 16 ≤ x3 → WX mi_G_joined 2 Q 4 [some (.ref 9), some (.ref 103), some (.int (x2 ||| (z_C_bitsAt_103 (M.1 11 x3.toNatClampNeg) x3))), some (.int (x3 + 1))] [] M) :
    WX mi_G_joined 2 Q 4 [some (.ref 9), some (.ref 103), some (.int x2), some (.int x3)] [] M := by
  refine WX.run (pc' := 7) (L' := [some (.ref 9), some (.ref 103), some (.int x2), some (.int x3)]) (st' := [.int 16, .int x3]) (M' := M) (P := True) 2 rfl trivial ?_
  refine WX.icmp_ge (off := 23) (tgt := 30) rfl rfl (fun c1 => ?_) (fun c1 => ?_)
  · refine WX.run (pc' := 31) (L' := [some (.ref 9), some (.ref 103), some (.int x2), some (.int x3)]) (st' := [.int x2]) (M' := M) (P := True) 1 rfl trivial ?_
    exact WX.iret rfl rfl (h1 c1)
  · refine WX.run (pc' := 19) (L' := [some (.ref 9), some (.ref 103), some (.int x2), some (.int x3)]) (st' := [.int x3, .int (M.1 11 x3.toNatClampNeg), .ref 103, .int x2]) (M' := M) (P := (True ∧ vp_in x3 16)) 7 rfl ⟨trivial, (b2 c1)⟩ ?_
    refine WX.callSN (ca := mi_C_bitsAt) (n := 3) (d' := 1) (st := [.int x2]) (As := [.ref 103, .int (M.1 11 x3.toNatClampNeg), .int x3]) rfl lk_0_87 ck_C_bitsAt cs_C_bitsAt rfl (by decide) rfl (Nat.le_of_ble_eq_true rfl) (by intro w hw; simp only [List.mem_cons, List.not_mem_nil, or_false] at hw; rcases hw with rfl | rfl | rfl <;> rfl) (Nat.le_of_ble_eq_true rfl) ?_
    refine wx_C_bitsAt_103 M (M.1 11 x3.toNatClampNeg) x3 (b3 c1) ?_
    show WX mi_G_joined 2 Q 22 [some (.ref 9), some (.ref 103), some (.int x2), some (.int x3)] [.int (z_C_bitsAt_103 (M.1 11 x3.toNatClampNeg) x3), .int x2] M
    refine WX.run (pc' := 4) (L' := [some (.ref 9), some (.ref 103), some (.int (x2 ||| (z_C_bitsAt_103 (M.1 11 x3.toNatClampNeg) x3))), some (.int (x3 + 1))]) (st' := []) (M' := M) (P := True) 4 rfl trivial ?_
    exact (h4 c1)
theorem sg_G_covered_9_0 {Q : Option Value → Mem → Prop} (M : Mem)
    (h1 : WX mi_G_joined 2 (fun rv M' => WX mi_G_covered 3 Q 7 [some (.ref 9)] (rv.toList ++ []) M') 0 [some (.ref 9), some (.ref 100), none, none] [] M) :
    WX mi_G_covered 3 Q 0 [some (.ref 9)] [] M := by
  refine WX.run (pc' := 4) (L' := [some (.ref 9)]) (st' := [.ref 100, .ref 9]) (M' := M) (P := True) 2 rfl trivial ?_
  refine WX.callV (ca := mi_G_joined) (n := 1) (d' := 2) (st := []) (As := [.ref 100]) (q := 9) rfl lk_0_91 ck_G_joined cv_G_joined rfl (by decide) rfl (Nat.le_of_ble_eq_true rfl) ⟨by decide, rfl, by decide⟩ (by intro w hw; simp only [List.mem_cons, List.not_mem_nil, or_false] at hw; rcases hw with rfl <;> rfl) (Nat.le_of_ble_eq_true rfl) ?_
  exact h1
theorem sg_G_covered_9_7 {Q : Option Value → Mem → Prop} (M : Mem) (r : Int32)
    (h1 : Q (some (.int r)) M) :
    WX mi_G_covered 3 Q 7 [some (.ref 9)] [.int r] M := by
  exact WX.iret rfl rfl h1
theorem sg_G_todaysCells_9_0 {Q : Option Value → Mem → Prop} (M : Mem)
    (h1 : WX mi_G_todaysCells 4 Q 4 [some (.ref 9), some (.int 0), some (.int 0)] [] M) :
    WX mi_G_todaysCells 4 Q 0 [some (.ref 9), none, none] [] M := by
  refine WX.run (pc' := 4) (L' := [some (.ref 9), some (.int 0), some (.int 0)]) (st' := []) (M' := M) (P := True) 4 rfl trivial ?_
  exact h1
theorem sg_G_todaysCells_9_4 {Q : Option Value → Mem → Prop} (M : Mem) (x1 x2 : Int32)
    (h1 : 16 ≤ x2 → Q (some (.int x1)) M)
    (h2 : ¬ 16 ≤ x2 → (z_G_isTodays_9 M x2) = 0 → WX mi_G_todaysCells 4 Q 4 [some (.ref 9), some (.int x1), some (.int (x2 + 1))] [] M)
    (b3 : ¬ 16 ≤ x2 → ¬ (z_G_isTodays_9 M x2) = 0 → vp_in x2 16)
    (b4 : ¬ 16 ≤ x2 → ¬ (z_G_isTodays_9 M x2) = 0 → ¬ (M.1 11 x2.toNatClampNeg) < 0 → ¬ 4 ≤ (M.1 11 x2.toNatClampNeg) → vp_in (M.1 11 x2.toNatClampNeg) 4)
    (h5 : ¬ 16 ≤ x2 → ¬ (z_G_isTodays_9 M x2) = 0 → WX mi_G_todaysCells 4 Q 4 [some (.ref 9), some (.int (x1 ||| (z_G_cellsOf_9 M x2))), some (.int (x2 + 1))] [] M) :
    WX mi_G_todaysCells 4 Q 4 [some (.ref 9), some (.int x1), some (.int x2)] [] M := by
  refine WX.run (pc' := 7) (L' := [some (.ref 9), some (.int x1), some (.int x2)]) (st' := [.int 16, .int x2]) (M' := M) (P := True) 2 rfl trivial ?_
  refine WX.icmp_ge (off := 25) (tgt := 32) rfl rfl (fun c1 => ?_) (fun c1 => ?_)
  · refine WX.run (pc' := 33) (L' := [some (.ref 9), some (.int x1), some (.int x2)]) (st' := [.int x1]) (M' := M) (P := True) 1 rfl trivial ?_
    exact WX.iret rfl rfl (h1 c1)
  · refine WX.run (pc' := 12) (L' := [some (.ref 9), some (.int x1), some (.int x2)]) (st' := [.int x2, .ref 9]) (M' := M) (P := True) 2 rfl trivial ?_
    refine WX.callV (ca := mi_G_isTodays) (n := 1) (d' := 2) (st := []) (As := [.int x2]) (q := 9) rfl lk_0_56 ck_G_isTodays cv_G_isTodays rfl (by decide) rfl (Nat.le_of_ble_eq_true rfl) ⟨by decide, rfl, by decide⟩ (by intro w hw; simp only [List.mem_cons, List.not_mem_nil, or_false] at hw; rcases hw with rfl <;> rfl) (Nat.le_of_ble_eq_true rfl) ?_
    refine wx_G_isTodays_9 M x2 ?_
    show WX mi_G_todaysCells 4 Q 15 [some (.ref 9), some (.int x1), some (.int x2)] [.int (z_G_isTodays_9 M x2)] M
    refine WX.if_eq (off := 11) (tgt := 26) rfl rfl (fun c2 => ?_) (fun c2 => ?_)
    · refine WX.run (pc' := 4) (L' := [some (.ref 9), some (.int x1), some (.int (x2 + 1))]) (st' := []) (M' := M) (P := True) 2 rfl trivial ?_
      exact (h2 c1 c2)
    · refine WX.run (pc' := 21) (L' := [some (.ref 9), some (.int x1), some (.int x2)]) (st' := [.int x2, .ref 9, .int x1]) (M' := M) (P := True) 3 rfl trivial ?_
      refine WX.callV (ca := mi_G_cellsOf) (n := 1) (d' := 3) (st := [.int x1]) (As := [.int x2]) (q := 9) rfl lk_0_77 ck_G_cellsOf cv_G_cellsOf rfl (by decide) rfl (Nat.le_of_ble_eq_true rfl) ⟨by decide, rfl, by decide⟩ (by intro w hw; simp only [List.mem_cons, List.not_mem_nil, or_false] at hw; rcases hw with rfl <;> rfl) (Nat.le_of_ble_eq_true rfl) ?_
      refine wx_G_cellsOf_9 M x2 (b3 c1 c2) (b4 c1 c2) ?_
      show WX mi_G_todaysCells 4 Q 24 [some (.ref 9), some (.int x1), some (.int x2)] [.int (z_G_cellsOf_9 M x2), .int x1] M
      refine WX.run (pc' := 4) (L' := [some (.ref 9), some (.int (x1 ||| (z_G_cellsOf_9 M x2))), some (.int (x2 + 1))]) (st' := []) (M' := M) (P := True) 4 rfl trivial ?_
      exact (h5 c1 c2)
theorem sg_G_alikePairs_9_0 {Q : Option Value → Mem → Prop} (M : Mem)
    (h1 : WX mi_G_alikePairs 4 Q 4 [some (.ref 9), some (.int 0), some (.int 0), none, none] [] M) :
    WX mi_G_alikePairs 4 Q 0 [some (.ref 9), none, none, none, none] [] M := by
  refine WX.run (pc' := 4) (L' := [some (.ref 9), some (.int 0), some (.int 0), none, none]) (st' := []) (M' := M) (P := True) 4 rfl trivial ?_
  exact h1
theorem sg_G_alikePairs_9_4 {Q : Option Value → Mem → Prop} (M : Mem) (x1 x2 : Int32)
    (h1 : 16 ≤ x2 → Q (some (.int x1)) M)
    (b2 : ¬ 16 ≤ x2 → vp_in x2 16)
    (b3 : ¬ 16 ≤ x2 → ¬ (M.1 11 x2.toNatClampNeg) < 0 → ¬ 4 ≤ (M.1 11 x2.toNatClampNeg) → vp_in (M.1 11 x2.toNatClampNeg) 4)
    (h4 : ¬ 16 ≤ x2 → WX mi_G_alikePairs 4 Q 24 [some (.ref 9), some (.int x1), some (.int x2), some (.int (z_C_beside (z_G_cellsOf_9 M x2))), some (.int (x2 + 1))] [] M) :
    WX mi_G_alikePairs 4 Q 4 [some (.ref 9), some (.int x1), some (.int x2), none, none] [] M := by
  refine WX.run (pc' := 7) (L' := [some (.ref 9), some (.int x1), some (.int x2), none, none]) (st' := [.int 16, .int x2]) (M' := M) (P := True) 2 rfl trivial ?_
  refine WX.icmp_ge (off := 66) (tgt := 73) rfl rfl (fun c1 => ?_) (fun c1 => ?_)
  · refine WX.run (pc' := 74) (L' := [some (.ref 9), some (.int x1), some (.int x2), none, none]) (st' := [.int x1]) (M' := M) (P := True) 1 rfl trivial ?_
    exact WX.iret rfl rfl (h1 c1)
  · refine WX.run (pc' := 12) (L' := [some (.ref 9), some (.int x1), some (.int x2), none, none]) (st' := [.int x2, .ref 9]) (M' := M) (P := True) 2 rfl trivial ?_
    refine WX.callV (ca := mi_G_cellsOf) (n := 1) (d' := 3) (st := []) (As := [.int x2]) (q := 9) rfl lk_0_77 ck_G_cellsOf cv_G_cellsOf rfl (by decide) rfl (Nat.le_of_ble_eq_true rfl) ⟨by decide, rfl, by decide⟩ (by intro w hw; simp only [List.mem_cons, List.not_mem_nil, or_false] at hw; rcases hw with rfl <;> rfl) (Nat.le_of_ble_eq_true rfl) ?_
    refine wx_G_cellsOf_9 M x2 (b2 c1) (b3 c1) ?_
    show WX mi_G_alikePairs 4 Q 15 [some (.ref 9), some (.int x1), some (.int x2), none, none] [.int (z_G_cellsOf_9 M x2)] M
    refine WX.callSN (ca := mi_C_beside) (n := 1) (d' := 1) (st := []) (As := [.int (z_G_cellsOf_9 M x2)]) rfl lk_0_95 ck_C_beside cs_C_beside rfl (by decide) rfl (Nat.le_of_ble_eq_true rfl) (by intro w hw; simp only [List.mem_cons, List.not_mem_nil, or_false] at hw; rcases hw with rfl <;> rfl) (Nat.le_of_ble_eq_true rfl) ?_
    refine wx_C_beside M (z_G_cellsOf_9 M x2) ?_
    show WX mi_G_alikePairs 4 Q 18 [some (.ref 9), some (.int x1), some (.int x2), none, none] [.int (z_C_beside (z_G_cellsOf_9 M x2))] M
    refine WX.run (pc' := 24) (L' := [some (.ref 9), some (.int x1), some (.int x2), some (.int (z_C_beside (z_G_cellsOf_9 M x2))), some (.int (x2 + 1))]) (st' := []) (M' := M) (P := True) 5 rfl trivial ?_
    exact (h4 c1)
theorem sg_G_alikePairs_9_24 {Q : Option Value → Mem → Prop} (M : Mem) (x1 x2 x3 x4 : Int32)
    (h1 : 16 ≤ x4 → WX mi_G_alikePairs 4 Q 4 [some (.ref 9), some (.int x1), some (.int (x2 + 1)), none, none] [] M)
    (b2 : ¬ 16 ≤ x4 → vp_in x4 16)
    (b3 : ¬ 16 ≤ x4 → vp_in x2 16)
    (h4 : ¬ 16 ≤ x4 → ¬ (M.1 11 x4.toNatClampNeg) = (M.1 11 x2.toNatClampNeg) → WX mi_G_alikePairs 4 Q 24 [some (.ref 9), some (.int x1), some (.int x2), some (.int x3), some (.int (x4 + 1))] [] M)
    (b5 : ¬ 16 ≤ x4 → (M.1 11 x4.toNatClampNeg) = (M.1 11 x2.toNatClampNeg) → vp_in x4 16)
    (b6 : ¬ 16 ≤ x4 → (M.1 11 x4.toNatClampNeg) = (M.1 11 x2.toNatClampNeg) → ¬ (M.1 11 x4.toNatClampNeg) < 0 → ¬ 4 ≤ (M.1 11 x4.toNatClampNeg) → vp_in (M.1 11 x4.toNatClampNeg) 4)
    (h7 : ¬ 16 ≤ x4 → (M.1 11 x4.toNatClampNeg) = (M.1 11 x2.toNatClampNeg) → ((z_G_cellsOf_9 M x4) &&& x3) = 0 → WX mi_G_alikePairs 4 Q 24 [some (.ref 9), some (.int x1), some (.int x2), some (.int x3), some (.int (x4 + 1))] [] M)
    (h8 : ¬ 16 ≤ x4 → (M.1 11 x4.toNatClampNeg) = (M.1 11 x2.toNatClampNeg) → ¬ ((z_G_cellsOf_9 M x4) &&& x3) = 0 → WX mi_G_alikePairs 4 Q 24 [some (.ref 9), some (.int (x1 + 1)), some (.int x2), some (.int x3), some (.int (x4 + 1))] [] M) :
    WX mi_G_alikePairs 4 Q 24 [some (.ref 9), some (.int x1), some (.int x2), some (.int x3), some (.int x4)] [] M := by
  refine WX.run (pc' := 28) (L' := [some (.ref 9), some (.int x1), some (.int x2), some (.int x3), some (.int x4)]) (st' := [.int 16, .int x4]) (M' := M) (P := True) 2 rfl trivial ?_
  refine WX.icmp_ge (off := 39) (tgt := 67) rfl rfl (fun c1 => ?_) (fun c1 => ?_)
  · refine WX.run (pc' := 4) (L' := [some (.ref 9), some (.int x1), some (.int (x2 + 1)), some (.int x3), some (.int x4)]) (st' := []) (M' := M) (P := True) 2 rfl trivial ?_
    refine WX.forget2 (L' := [some (.ref 9), some (.int x1), some (.int (x2 + 1)), none, none]) ?_ ⟨Or.inr rfl, Or.inr rfl, Or.inr rfl, Or.inl rfl, Or.inl rfl, trivial⟩
    exact (h1 c1)
  · refine WX.run (pc' := 44) (L' := [some (.ref 9), some (.int x1), some (.int x2), some (.int x3), some (.int x4)]) (st' := [.int (M.1 11 x2.toNatClampNeg), .int (M.1 11 x4.toNatClampNeg)]) (M' := M) (P := ((True ∧ vp_in x4 16) ∧ vp_in x2 16)) 8 rfl ⟨⟨trivial, (b2 c1)⟩, (b3 c1)⟩ ?_
    refine WX.icmp_ne (off := 17) (tgt := 61) rfl rfl (fun c2 => ?_) (fun c2 => ?_)
    · refine WX.run (pc' := 24) (L' := [some (.ref 9), some (.int x1), some (.int x2), some (.int x3), some (.int (x4 + 1))]) (st' := []) (M' := M) (P := True) 2 rfl trivial ?_
      exact (h4 c1 c2)
    · refine WX.run (pc' := 50) (L' := [some (.ref 9), some (.int x1), some (.int x2), some (.int x3), some (.int x4)]) (st' := [.int x4, .ref 9]) (M' := M) (P := True) 2 rfl trivial ?_
      refine WX.callV (ca := mi_G_cellsOf) (n := 1) (d' := 3) (st := []) (As := [.int x4]) (q := 9) rfl lk_0_77 ck_G_cellsOf cv_G_cellsOf rfl (by decide) rfl (Nat.le_of_ble_eq_true rfl) ⟨by decide, rfl, by decide⟩ (by intro w hw; simp only [List.mem_cons, List.not_mem_nil, or_false] at hw; rcases hw with rfl <;> rfl) (Nat.le_of_ble_eq_true rfl) ?_
      refine wx_G_cellsOf_9 M x4 (b5 c1 c2) (b6 c1 c2) ?_
      show WX mi_G_alikePairs 4 Q 53 [some (.ref 9), some (.int x1), some (.int x2), some (.int x3), some (.int x4)] [.int (z_G_cellsOf_9 M x4)] M
      refine WX.run (pc' := 55) (L' := [some (.ref 9), some (.int x1), some (.int x2), some (.int x3), some (.int x4)]) (st' := [.int ((z_G_cellsOf_9 M x4) &&& x3)]) (M' := M) (P := True) 2 rfl trivial ?_
      refine WX.if_eq (off := 6) (tgt := 61) rfl rfl (fun c3 => ?_) (fun c3 => ?_)
      · refine WX.run (pc' := 24) (L' := [some (.ref 9), some (.int x1), some (.int x2), some (.int x3), some (.int (x4 + 1))]) (st' := []) (M' := M) (P := True) 2 rfl trivial ?_
        exact (h7 c1 c2 c3)
      · refine WX.run (pc' := 24) (L' := [some (.ref 9), some (.int (x1 + 1)), some (.int x2), some (.int x3), some (.int (x4 + 1))]) (st' := []) (M' := M) (P := True) 3 rfl trivial ?_
        exact (h8 c1 c2 c3)
theorem sg_G_put_9_0 {Q : Option Value → Mem → Prop} (M : Mem) (x1 x2 x3 : Int32)
    (h1 : (z_C_isSize x1) = 0 → Q none M)
    (b2 : ¬ (z_C_isSize x1) = 0 → ¬ (z_C_isNumber x2) = 0 → vp_in x2 16)
    (b3 : ¬ (z_C_isSize x1) = 0 → ¬ (z_C_isNumber x2) = 0 → vp_in x1 4)
    (h4 : ¬ (z_C_isSize x1) = 0 → ¬ (z_C_isNumber x2) = 0 → x3 = 0 → Q none (wr (wr M 11 x2.toNatClampNeg x1) 12 x1.toNatClampNeg ((M.1 12 x1.toNatClampNeg) - 1)))
    (h5 : ¬ (z_C_isSize x1) = 0 → ¬ (z_C_isNumber x2) = 0 → ¬ x3 = 0 → Q none (wr (wr (wr M 11 x2.toNatClampNeg x1) 12 x1.toNatClampNeg ((M.1 12 x1.toNatClampNeg) - 1)) 9 3 ((M.1 9 3) ||| (shl 1 x2))))
    (h6 : ¬ (z_C_isSize x1) = 0 → (z_C_isNumber x2) = 0 → Q none M) :
    WX mi_G_put 2 Q 0 [some (.ref 9), some (.int x1), some (.int x2), some (.int x3)] [] M := by
  refine WX.run (pc' := 1) (L' := [some (.ref 9), some (.int x1), some (.int x2), some (.int x3)]) (st' := [.int x1]) (M' := M) (P := True) 1 rfl trivial ?_
  refine WX.callSN (ca := mi_C_isSize) (n := 1) (d' := 1) (st := []) (As := [.int x1]) rfl lk_0_71 ck_C_isSize cs_C_isSize rfl (by decide) rfl (Nat.le_of_ble_eq_true rfl) (by intro w hw; simp only [List.mem_cons, List.not_mem_nil, or_false] at hw; rcases hw with rfl <;> rfl) (Nat.le_of_ble_eq_true rfl) ?_
  refine wx_C_isSize M x1 ?_
  show WX mi_G_put 2 Q 4 [some (.ref 9), some (.int x1), some (.int x2), some (.int x3)] [.int (z_C_isSize x1)] M
  refine WX.if_eq (off := 10) (tgt := 14) rfl rfl (fun c1 => ?_) (fun c1 => ?_)
  · exact WX.vret rfl rfl (h1 c1)
  · refine WX.run (pc' := 8) (L' := [some (.ref 9), some (.int x1), some (.int x2), some (.int x3)]) (st' := [.int x2]) (M' := M) (P := True) 1 rfl trivial ?_
    refine WX.callSN (ca := mi_C_isNumber) (n := 1) (d' := 1) (st := []) (As := [.int x2]) rfl lk_0_74 ck_C_isNumber cs_C_isNumber rfl (by decide) rfl (Nat.le_of_ble_eq_true rfl) (by intro w hw; simp only [List.mem_cons, List.not_mem_nil, or_false] at hw; rcases hw with rfl <;> rfl) (Nat.le_of_ble_eq_true rfl) ?_
    refine wx_C_isNumber M x2 ?_
    show WX mi_G_put 2 Q 11 [some (.ref 9), some (.int x1), some (.int x2), some (.int x3)] [.int (z_C_isNumber x2)] M
    refine WX.if_ne (off := 4) (tgt := 15) rfl rfl (fun c2 => ?_) (fun c2 => ?_)
    · refine WX.run (pc' := 33) (L' := [some (.ref 9), some (.int x1), some (.int x2), some (.int x3)]) (st' := [.int x3]) (M' := (wr (wr M 11 x2.toNatClampNeg x1) 12 x1.toNatClampNeg ((M.1 12 x1.toNatClampNeg) - 1))) (P := (((True ∧ vp_in x2 16) ∧ vp_in x1 4) ∧ vp_in x1 4)) 14 rfl ⟨⟨⟨trivial, (b2 c1 c2)⟩, (b3 c1 c2)⟩, (b3 c1 c2)⟩ ?_
      refine WX.if_eq (off := 15) (tgt := 48) rfl rfl (fun c3 => ?_) (fun c3 => ?_)
      · exact WX.vret rfl rfl (h4 c1 c2 c3)
      · refine WX.run (pc' := 48) (L' := [some (.ref 9), some (.int x1), some (.int x2), some (.int x3)]) (st' := []) (M' := (wr (wr (wr M 11 x2.toNatClampNeg x1) 12 x1.toNatClampNeg ((M.1 12 x1.toNatClampNeg) - 1)) 9 3 ((M.1 9 3) ||| (shl 1 x2)))) (P := True) 8 rfl trivial ?_
        exact WX.vret rfl rfl (h5 c1 c2 c3)
    · exact WX.vret rfl rfl (h6 c1 c2)
theorem sg_G_take_9_0 {Q : Option Value → Mem → Prop} (M : Mem) (x1 : Int32)
    (b1 : vp_in x1 16)
    (h2 : (z_C_isSize (M.1 11 x1.toNatClampNeg)) = 0 → Q none M)
    (b3 : ¬ (z_C_isSize (M.1 11 x1.toNatClampNeg)) = 0 → ¬ (z_C_isNumber x1) = 0 → vp_in x1 16)
    (b4 : ¬ (z_C_isSize (M.1 11 x1.toNatClampNeg)) = 0 → ¬ (z_C_isNumber x1) = 0 → vp_in (M.1 11 x1.toNatClampNeg) 4)
    (h5 : ¬ (z_C_isSize (M.1 11 x1.toNatClampNeg)) = 0 → ¬ (z_C_isNumber x1) = 0 → Q none (wr (wr (wr M 11 x1.toNatClampNeg (-9)) 12 (M.1 11 x1.toNatClampNeg).toNatClampNeg ((M.1 12 (M.1 11 x1.toNatClampNeg).toNatClampNeg) + 1)) 9 3 ((M.1 9 3) &&& ((shl 1 x1) ^^^ (-1)))))
    (h6 : ¬ (z_C_isSize (M.1 11 x1.toNatClampNeg)) = 0 → (z_C_isNumber x1) = 0 → Q none M) :
    WX mi_G_take 3 Q 0 [some (.ref 9), some (.int x1), none] [] M := by
  refine WX.run (pc' := 2) (L' := [some (.ref 9), some (.int x1), none]) (st' := [.int x1, .ref 9]) (M' := M) (P := True) 2 rfl trivial ?_
  refine WX.callV (ca := mi_G_sizeOf) (n := 1) (d' := 2) (st := []) (As := [.int x1]) (q := 9) rfl lk_0_52 ck_G_sizeOf cv_G_sizeOf rfl (by decide) rfl (Nat.le_of_ble_eq_true rfl) ⟨by decide, rfl, by decide⟩ (by intro w hw; simp only [List.mem_cons, List.not_mem_nil, or_false] at hw; rcases hw with rfl <;> rfl) (Nat.le_of_ble_eq_true rfl) ?_
  refine wx_G_sizeOf_9b M x1 b1 ?_
  show WX mi_G_take 3 Q 5 [some (.ref 9), some (.int x1), none] [.int (M.1 11 x1.toNatClampNeg)] M
  refine WX.run (pc' := 7) (L' := [some (.ref 9), some (.int x1), some (.int (M.1 11 x1.toNatClampNeg))]) (st' := [.int (M.1 11 x1.toNatClampNeg)]) (M' := M) (P := True) 2 rfl trivial ?_
  refine WX.callSN (ca := mi_C_isSize) (n := 1) (d' := 1) (st := []) (As := [.int (M.1 11 x1.toNatClampNeg)]) rfl lk_0_71 ck_C_isSize cs_C_isSize rfl (by decide) rfl (Nat.le_of_ble_eq_true rfl) (by intro w hw; simp only [List.mem_cons, List.not_mem_nil, or_false] at hw; rcases hw with rfl <;> rfl) (Nat.le_of_ble_eq_true rfl) ?_
  refine wx_C_isSize M (M.1 11 x1.toNatClampNeg) ?_
  show WX mi_G_take 3 Q 10 [some (.ref 9), some (.int x1), some (.int (M.1 11 x1.toNatClampNeg))] [.int (z_C_isSize (M.1 11 x1.toNatClampNeg))] M
  refine WX.if_eq (off := 10) (tgt := 20) rfl rfl (fun c1 => ?_) (fun c1 => ?_)
  · exact WX.vret rfl rfl (h2 c1)
  · refine WX.run (pc' := 14) (L' := [some (.ref 9), some (.int x1), some (.int (M.1 11 x1.toNatClampNeg))]) (st' := [.int x1]) (M' := M) (P := True) 1 rfl trivial ?_
    refine WX.callSN (ca := mi_C_isNumber) (n := 1) (d' := 1) (st := []) (As := [.int x1]) rfl lk_0_74 ck_C_isNumber cs_C_isNumber rfl (by decide) rfl (Nat.le_of_ble_eq_true rfl) (by intro w hw; simp only [List.mem_cons, List.not_mem_nil, or_false] at hw; rcases hw with rfl <;> rfl) (Nat.le_of_ble_eq_true rfl) ?_
    refine wx_C_isNumber M x1 ?_
    show WX mi_G_take 3 Q 17 [some (.ref 9), some (.int x1), some (.int (M.1 11 x1.toNatClampNeg))] [.int (z_C_isNumber x1)] M
    refine WX.if_ne (off := 4) (tgt := 21) rfl rfl (fun c2 => ?_) (fun c2 => ?_)
    · refine WX.run (pc' := 53) (L' := [some (.ref 9), some (.int x1), some (.int (M.1 11 x1.toNatClampNeg))]) (st' := []) (M' := (wr (wr (wr M 11 x1.toNatClampNeg (-9)) 12 (M.1 11 x1.toNatClampNeg).toNatClampNeg ((M.1 12 (M.1 11 x1.toNatClampNeg).toNatClampNeg) + 1)) 9 3 ((M.1 9 3) &&& ((shl 1 x1) ^^^ (-1))))) (P := (((True ∧ vp_in x1 16) ∧ vp_in (M.1 11 x1.toNatClampNeg) 4) ∧ vp_in (M.1 11 x1.toNatClampNeg) 4)) 23 rfl ⟨⟨⟨trivial, (b3 c1 c2)⟩, (b4 c1 c2)⟩, (b4 c1 c2)⟩ ?_
      exact WX.vret rfl rfl (h5 c1 c2)
    · exact WX.vret rfl rfl (h6 c1 c2)
theorem sg_G_remember_9_0 {Q : Option Value → Mem → Prop} (M : Mem) (x1 x2 x3 : Int32)
    (b1 : (M.1 9 8) < 10 → vp_in (M.1 9 8) 10)
    (h2 : (M.1 9 8) < 10 → Q none (wr (wr (wr (wr M 13 (M.1 9 8).toNatClampNeg x1) 14 (M.1 9 8).toNatClampNeg x2) 15 (M.1 9 8).toNatClampNeg x3) 9 8 ((M.1 9 8) + 1)))
    (h3 : ¬ (M.1 9 8) < 10 → WX mi_G_remember 1 Q 12 [some (.ref 9), some (.int x1), some (.int x2), some (.int x3), some (.int 1)] [] M) :
    WX mi_G_remember 1 Q 0 [some (.ref 9), some (.int x1), some (.int x2), some (.int x3), none] [] M := by
  refine WX.run (pc' := 6) (L' := [some (.ref 9), some (.int x1), some (.int x2), some (.int x3), none]) (st' := [.int 10, .int (M.1 9 8)]) (M' := M) (P := True) 3 rfl trivial ?_
  refine WX.icmp_lt (off := 73) (tgt := 79) rfl rfl (fun c1 => ?_) (fun c1 => ?_)
  · refine WX.run (pc' := 119) (L' := [some (.ref 9), some (.int x1), some (.int x2), some (.int x3), none]) (st' := []) (M' := (wr (wr (wr (wr M 13 (M.1 9 8).toNatClampNeg x1) 14 (M.1 9 8).toNatClampNeg x2) 15 (M.1 9 8).toNatClampNeg x3) 9 8 ((M.1 9 8) + 1))) (P := (((True ∧ vp_in (M.1 9 8) 10) ∧ vp_in (M.1 9 8) 10) ∧ vp_in (M.1 9 8) 10)) 24 rfl ⟨⟨⟨trivial, (b1 c1)⟩, (b1 c1)⟩, (b1 c1)⟩ ?_
    exact WX.vret rfl rfl (h2 c1)
  · refine WX.run (pc' := 12) (L' := [some (.ref 9), some (.int x1), some (.int x2), some (.int x3), some (.int 1)]) (st' := []) (M' := M) (P := True) 2 rfl trivial ?_
    exact (h3 c1)
theorem sg_G_remember_9_12 {Q : Option Value → Mem → Prop} (M : Mem) (x1 x2 x3 x4 : Int32)
    (h1 : 10 ≤ x4 → Q none (wr (wr (wr (wr (wr M 9 8 9) 13 9 x1) 14 9 x2) 15 9 x3) 9 8 (9 + 1)))
    (b2 : ¬ 10 ≤ x4 → vp_in x4 10)
    (b3 : ¬ 10 ≤ x4 → vp_in (x4 - 1) 10)
    (h4 : ¬ 10 ≤ x4 → WX mi_G_remember 1 Q 12 [some (.ref 9), some (.int x1), some (.int x2), some (.int x3), some (.int (x4 + 1))] [] (wr (wr (wr M 13 (x4 - 1).toNatClampNeg (M.1 13 x4.toNatClampNeg)) 14 (x4 - 1).toNatClampNeg (M.1 14 x4.toNatClampNeg)) 15 (x4 - 1).toNatClampNeg (M.1 15 x4.toNatClampNeg))) :
    WX mi_G_remember 1 Q 12 [some (.ref 9), some (.int x1), some (.int x2), some (.int x3), some (.int x4)] [] M := by
  refine WX.run (pc' := 16) (L' := [some (.ref 9), some (.int x1), some (.int x2), some (.int x3), some (.int x4)]) (st' := [.int 10, .int x4]) (M' := M) (P := True) 2 rfl trivial ?_
  refine WX.icmp_ge (off := 57) (tgt := 73) rfl rfl (fun c1 => ?_) (fun c1 => ?_)
  · refine WX.run (pc' := 119) (L' := [some (.ref 9), some (.int x1), some (.int x2), some (.int x3), some (.int x4)]) (st' := []) (M' := (wr (wr (wr (wr (wr M 9 8 9) 13 9 x1) 14 9 x2) 15 9 x3) 9 8 (9 + 1))) (P := (((True ∧ vp_in 9 10) ∧ vp_in 9 10) ∧ vp_in 9 10)) 27 rfl ⟨⟨⟨trivial, (vp_lit rfl)⟩, (vp_lit rfl)⟩, (vp_lit rfl)⟩ ?_
    exact WX.vret rfl rfl (h1 c1)
  · refine WX.run (pc' := 12) (L' := [some (.ref 9), some (.int x1), some (.int x2), some (.int x3), some (.int (x4 + 1))]) (st' := []) (M' := (wr (wr (wr M 13 (x4 - 1).toNatClampNeg (M.1 13 x4.toNatClampNeg)) 14 (x4 - 1).toNatClampNeg (M.1 14 x4.toNatClampNeg)) 15 (x4 - 1).toNatClampNeg (M.1 15 x4.toNatClampNeg))) (P := ((((((True ∧ vp_in x4 10) ∧ vp_in (x4 - 1) 10) ∧ vp_in x4 10) ∧ vp_in (x4 - 1) 10) ∧ vp_in x4 10) ∧ vp_in (x4 - 1) 10)) 32 rfl ⟨⟨⟨⟨⟨⟨trivial, (b2 c1)⟩, (b3 c1)⟩, (b2 c1)⟩, (b3 c1)⟩, (b2 c1)⟩, (b3 c1)⟩ ?_
    exact (h4 c1)
theorem sg_G_lay_9_0 {Q : Option Value → Mem → Prop} (M : Mem) (x1 x2 : Int32)
    (h1 : WX mi_G_put 2 (fun rv M' => WX mi_G_lay 3 Q 7 [some (.ref 9), some (.int x1), some (.int x2)] (rv.toList ++ []) M') 0 [some (.ref 9), some (.int x1), some (.int x2), some (.int 1)] [] M) :
    WX mi_G_lay 3 Q 0 [some (.ref 9), some (.int x1), some (.int x2)] [] M := by
  refine WX.run (pc' := 4) (L' := [some (.ref 9), some (.int x1), some (.int x2)]) (st' := [.int 1, .int x2, .int x1, .ref 9]) (M' := M) (P := True) 4 rfl trivial ?_
  refine WX.callV (ca := mi_G_put) (n := 3) (d' := 2) (st := []) (As := [.int x1, .int x2, .int 1]) (q := 9) rfl lk_0_44 ck_G_put cv_G_put rfl (by decide) rfl (Nat.le_of_ble_eq_true rfl) ⟨by decide, rfl, by decide⟩ (by intro w hw; simp only [List.mem_cons, List.not_mem_nil, or_false] at hw; rcases hw with rfl | rfl | rfl <;> rfl) (Nat.le_of_ble_eq_true rfl) ?_
  exact h1
theorem sg_G_lay_9_7 {Q : Option Value → Mem → Prop} (M : Mem) (x1 x2 : Int32)
    (h1 : WX mi_G_remember 1 (fun rv M' => WX mi_G_lay 3 Q 14 [some (.ref 9), some (.int x1), some (.int x2)] (rv.toList ++ []) M') 0 [some (.ref 9), some (.int 0), some (.int x2), some (.int 0), none] [] M) :
    WX mi_G_lay 3 Q 7 [some (.ref 9), some (.int x1), some (.int x2)] [] M := by
  refine WX.run (pc' := 11) (L' := [some (.ref 9), some (.int x1), some (.int x2)]) (st' := [.int 0, .int x2, .int 0, .ref 9]) (M' := M) (P := True) 4 rfl trivial ?_
  refine WX.callV (ca := mi_G_remember) (n := 3) (d' := 1) (st := []) (As := [.int 0, .int x2, .int 0]) (q := 9) rfl lk_0_48 ck_G_remember cv_G_remember rfl (by decide) rfl (Nat.le_of_ble_eq_true rfl) ⟨by decide, rfl, by decide⟩ (by intro w hw; simp only [List.mem_cons, List.not_mem_nil, or_false] at hw; rcases hw with rfl | rfl | rfl <;> rfl) (Nat.le_of_ble_eq_true rfl) ?_
  exact h1
theorem sg_G_lay_9_14 {Q : Option Value → Mem → Prop} (M : Mem) (x1 x2 : Int32)
    (h1 : Q none M) :
    WX mi_G_lay 3 Q 14 [some (.ref 9), some (.int x1), some (.int x2)] [] M := by
  exact WX.vret rfl rfl h1
theorem sg_G_lift_9_0 {Q : Option Value → Mem → Prop} (M : Mem) (x1 : Int32)
    (b1 : vp_in x1 16)
    (h2 : (z_G_isTodays_9 M x1) = 0 → WX mi_G_take 3 (fun rv M' => WX mi_G_lift 4 Q 27 [some (.ref 9), some (.int x1), some (.int (M.1 11 x1.toNatClampNeg)), some (.int (M.1 11 x1.toNatClampNeg))] (rv.toList ++ []) M') 0 [some (.ref 9), some (.int x1), none] [] M)
    (h3 : ¬ (z_G_isTodays_9 M x1) = 0 → WX mi_G_take 3 (fun rv M' => WX mi_G_lift 4 Q 27 [some (.ref 9), some (.int x1), some (.int (M.1 11 x1.toNatClampNeg)), some (.int ((M.1 11 x1.toNatClampNeg) + 4))] (rv.toList ++ []) M') 0 [some (.ref 9), some (.int x1), none] [] M) :
    WX mi_G_lift 4 Q 0 [some (.ref 9), some (.int x1), none, none] [] M := by
  refine WX.run (pc' := 2) (L' := [some (.ref 9), some (.int x1), none, none]) (st' := [.int x1, .ref 9]) (M' := M) (P := True) 2 rfl trivial ?_
  refine WX.callV (ca := mi_G_sizeOf) (n := 1) (d' := 2) (st := []) (As := [.int x1]) (q := 9) rfl lk_0_52 ck_G_sizeOf cv_G_sizeOf rfl (by decide) rfl (Nat.le_of_ble_eq_true rfl) ⟨by decide, rfl, by decide⟩ (by intro w hw; simp only [List.mem_cons, List.not_mem_nil, or_false] at hw; rcases hw with rfl <;> rfl) (Nat.le_of_ble_eq_true rfl) ?_
  refine wx_G_sizeOf_9b M x1 b1 ?_
  show WX mi_G_lift 4 Q 5 [some (.ref 9), some (.int x1), none, none] [.int (M.1 11 x1.toNatClampNeg)] M
  refine WX.run (pc' := 8) (L' := [some (.ref 9), some (.int x1), some (.int (M.1 11 x1.toNatClampNeg)), none]) (st' := [.int x1, .ref 9]) (M' := M) (P := True) 3 rfl trivial ?_
  refine WX.callV (ca := mi_G_isTodays) (n := 1) (d' := 2) (st := []) (As := [.int x1]) (q := 9) rfl lk_0_56 ck_G_isTodays cv_G_isTodays rfl (by decide) rfl (Nat.le_of_ble_eq_true rfl) ⟨by decide, rfl, by decide⟩ (by intro w hw; simp only [List.mem_cons, List.not_mem_nil, or_false] at hw; rcases hw with rfl <;> rfl) (Nat.le_of_ble_eq_true rfl) ?_
  refine wx_G_isTodays_9 M x1 ?_
  show WX mi_G_lift 4 Q 11 [some (.ref 9), some (.int x1), some (.int (M.1 11 x1.toNatClampNeg)), none] [.int (z_G_isTodays_9 M x1)] M
  refine WX.if_eq (off := 9) (tgt := 20) rfl rfl (fun c1 => ?_) (fun c1 => ?_)
  · refine WX.run (pc' := 24) (L' := [some (.ref 9), some (.int x1), some (.int (M.1 11 x1.toNatClampNeg)), some (.int (M.1 11 x1.toNatClampNeg))]) (st' := [.int x1, .ref 9]) (M' := M) (P := True) 4 rfl trivial ?_
    refine WX.callV (ca := mi_G_take) (n := 1) (d' := 3) (st := []) (As := [.int x1]) (q := 9) rfl lk_0_60 ck_G_take cv_G_take rfl (by decide) rfl (Nat.le_of_ble_eq_true rfl) ⟨by decide, rfl, by decide⟩ (by intro w hw; simp only [List.mem_cons, List.not_mem_nil, or_false] at hw; rcases hw with rfl <;> rfl) (Nat.le_of_ble_eq_true rfl) ?_
    exact (h2 c1)
  · refine WX.run (pc' := 24) (L' := [some (.ref 9), some (.int x1), some (.int (M.1 11 x1.toNatClampNeg)), some (.int ((M.1 11 x1.toNatClampNeg) + 4))]) (st' := [.int x1, .ref 9]) (M' := M) (P := True) 7 rfl trivial ?_
    refine WX.callV (ca := mi_G_take) (n := 1) (d' := 3) (st := []) (As := [.int x1]) (q := 9) rfl lk_0_60 ck_G_take cv_G_take rfl (by decide) rfl (Nat.le_of_ble_eq_true rfl) ⟨by decide, rfl, by decide⟩ (by intro w hw; simp only [List.mem_cons, List.not_mem_nil, or_false] at hw; rcases hw with rfl <;> rfl) (Nat.le_of_ble_eq_true rfl) ?_
    exact (h3 c1)
theorem sg_G_lift_9_27 {Q : Option Value → Mem → Prop} (M : Mem) (x1 x2 x3 : Int32)
    (h1 : WX mi_G_remember 1 (fun rv M' => WX mi_G_lift 4 Q 34 [some (.ref 9), some (.int x1), some (.int x2), some (.int x3)] (rv.toList ++ []) M') 0 [some (.ref 9), some (.int 1), some (.int x1), some (.int x3), none] [] M) :
    WX mi_G_lift 4 Q 27 [some (.ref 9), some (.int x1), some (.int x2), some (.int x3)] [] M := by
  refine WX.run (pc' := 31) (L' := [some (.ref 9), some (.int x1), some (.int x2), some (.int x3)]) (st' := [.int x3, .int x1, .int 1, .ref 9]) (M' := M) (P := True) 4 rfl trivial ?_
  refine WX.callV (ca := mi_G_remember) (n := 3) (d' := 1) (st := []) (As := [.int 1, .int x1, .int x3]) (q := 9) rfl lk_0_48 ck_G_remember cv_G_remember rfl (by decide) rfl (Nat.le_of_ble_eq_true rfl) ⟨by decide, rfl, by decide⟩ (by intro w hw; simp only [List.mem_cons, List.not_mem_nil, or_false] at hw; rcases hw with rfl | rfl | rfl <;> rfl) (Nat.le_of_ble_eq_true rfl) ?_
  exact h1
theorem sg_G_lift_9_34 {Q : Option Value → Mem → Prop} (M : Mem) (x1 x2 x3 : Int32)
    (h1 : Q (some (.int x2)) M) :
    WX mi_G_lift 4 Q 34 [some (.ref 9), some (.int x1), some (.int x2), some (.int x3)] [] M := by
  refine WX.run (pc' := 35) (L' := [some (.ref 9), some (.int x1), some (.int x2), some (.int x3)]) (st' := [.int x2]) (M' := M) (P := True) 1 rfl trivial ?_
  exact WX.iret rfl rfl h1
theorem sg_G_raise_9_0 {Q : Option Value → Mem → Prop} (M : Mem) (x1 x2 : Int32)
    (b1 : vp_in x1 16)
    (h2 : WX mi_G_remember 1 (fun rv M' => WX mi_G_raise 3 Q 19 [some (.ref 9), some (.int x1), some (.int x2), some (.int (M.1 10 x1.toNatClampNeg))] (rv.toList ++ []) M') 0 [some (.ref 9), some (.int 2), some (.int x1), some (.int (M.1 10 x1.toNatClampNeg)), none] [] (wr M 10 x1.toNatClampNeg x2)) :
    WX mi_G_raise 3 Q 0 [some (.ref 9), some (.int x1), some (.int x2), none] [] M := by
  refine WX.run (pc' := 2) (L' := [some (.ref 9), some (.int x1), some (.int x2), none]) (st' := [.int x1, .ref 9]) (M' := M) (P := True) 2 rfl trivial ?_
  refine WX.callV (ca := mi_G_heightOf) (n := 1) (d' := 2) (st := []) (As := [.int x1]) (q := 9) rfl lk_0_64 ck_G_heightOf cv_G_heightOf rfl (by decide) rfl (Nat.le_of_ble_eq_true rfl) ⟨by decide, rfl, by decide⟩ (by intro w hw; simp only [List.mem_cons, List.not_mem_nil, or_false] at hw; rcases hw with rfl <;> rfl) (Nat.le_of_ble_eq_true rfl) ?_
  refine wx_G_heightOf_9b M x1 b1 ?_
  show WX mi_G_raise 3 Q 5 [some (.ref 9), some (.int x1), some (.int x2), none] [.int (M.1 10 x1.toNatClampNeg)] M
  refine WX.run (pc' := 9) (L' := [some (.ref 9), some (.int x1), some (.int x2), some (.int (M.1 10 x1.toNatClampNeg))]) (st' := [.int x2, .int x1, .ref 9]) (M' := M) (P := True) 4 rfl trivial ?_
  refine WX.callV (ca := mi_G_setHeight) (n := 2) (d' := 2) (st := []) (As := [.int x1, .int x2]) (q := 9) rfl lk_0_67 ck_G_setHeight cv_G_setHeight rfl (by decide) rfl (Nat.le_of_ble_eq_true rfl) ⟨by decide, rfl, by decide⟩ (by intro w hw; simp only [List.mem_cons, List.not_mem_nil, or_false] at hw; rcases hw with rfl | rfl <;> rfl) (Nat.le_of_ble_eq_true rfl) ?_
  refine wx_G_setHeight_9b M x1 x2 b1 ?_
  show WX mi_G_raise 3 Q 12 [some (.ref 9), some (.int x1), some (.int x2), some (.int (M.1 10 x1.toNatClampNeg))] [] (wr M 10 x1.toNatClampNeg x2)
  refine WX.run (pc' := 16) (L' := [some (.ref 9), some (.int x1), some (.int x2), some (.int (M.1 10 x1.toNatClampNeg))]) (st' := [.int (M.1 10 x1.toNatClampNeg), .int x1, .int 2, .ref 9]) (M' := (wr M 10 x1.toNatClampNeg x2)) (P := True) 4 rfl trivial ?_
  refine WX.callV (ca := mi_G_remember) (n := 3) (d' := 1) (st := []) (As := [.int 2, .int x1, .int (M.1 10 x1.toNatClampNeg)]) (q := 9) rfl lk_0_48 ck_G_remember cv_G_remember rfl (by decide) rfl (Nat.le_of_ble_eq_true rfl) ⟨by decide, rfl, by decide⟩ (by intro w hw; simp only [List.mem_cons, List.not_mem_nil, or_false] at hw; rcases hw with rfl | rfl | rfl <;> rfl) (Nat.le_of_ble_eq_true rfl) ?_
  exact h2
theorem sg_G_raise_9_19 {Q : Option Value → Mem → Prop} (M : Mem) (x1 x2 x3 : Int32)
    (h1 : Q (some (.int x3)) M) :
    WX mi_G_raise 3 Q 19 [some (.ref 9), some (.int x1), some (.int x2), some (.int x3)] [] M := by
  refine WX.run (pc' := 20) (L' := [some (.ref 9), some (.int x1), some (.int x2), some (.int x3)]) (st' := [.int x3]) (M' := M) (P := True) 1 rfl trivial ?_
  exact WX.iret rfl rfl h1
theorem sg_G_passDay_9_0 {Q : Option Value → Mem → Prop} (M : Mem)
    (h1 : WX mi_G_remember 1 (fun rv M' => WX mi_G_passDay 2 Q 10 [some (.ref 9)] (rv.toList ++ []) M') 0 [some (.ref 9), some (.int 3), some (.int 0), some (.int (M.1 9 3)), none] [] M) :
    WX mi_G_passDay 2 Q 0 [some (.ref 9)] [] M := by
  refine WX.run (pc' := 7) (L' := [some (.ref 9)]) (st' := [.int (M.1 9 3), .int 0, .int 3, .ref 9]) (M' := M) (P := True) 5 rfl trivial ?_
  refine WX.callV (ca := mi_G_remember) (n := 3) (d' := 1) (st := []) (As := [.int 3, .int 0, .int (M.1 9 3)]) (q := 9) rfl lk_0_48 ck_G_remember cv_G_remember rfl (by decide) rfl (Nat.le_of_ble_eq_true rfl) ⟨by decide, rfl, by decide⟩ (by intro w hw; simp only [List.mem_cons, List.not_mem_nil, or_false] at hw; rcases hw with rfl | rfl | rfl <;> rfl) (Nat.le_of_ble_eq_true rfl) ?_
  exact h1
theorem sg_G_passDay_9_10 {Q : Option Value → Mem → Prop} (M : Mem)
    (h1 : Q none (wr (wr M 9 3 0) 9 4 ((M.1 9 4) + 1))) :
    WX mi_G_passDay 2 Q 10 [some (.ref 9)] [] M := by
  refine WX.run (pc' := 25) (L' := [some (.ref 9)]) (st' := []) (M' := (wr (wr M 9 3 0) 9 4 ((M.1 9 4) + 1))) (P := True) 9 rfl trivial ?_
  exact WX.vret rfl rfl h1
theorem sg_G_goBack_9_0 {Q : Option Value → Mem → Prop} (M : Mem)
    (b1 : 0 < (M.1 9 8) → vp_in ((M.1 9 8) - 1) 10)
    (h2 : 0 < (M.1 9 8) → (M.1 13 ((M.1 9 8) - 1).toNatClampNeg) = 0 → WX mi_G_take 3 (fun rv M' => WX mi_G_goBack 4 Q 81 [some (.ref 9), some (.int (M.1 14 ((M.1 9 8) - 1).toNatClampNeg)), some (.int (M.1 15 ((M.1 9 8) - 1).toNatClampNeg))] (rv.toList ++ []) M') 0 [some (.ref 9), some (.int (M.1 14 ((M.1 9 8) - 1).toNatClampNeg)), none] [] (wr M 9 8 ((M.1 9 8) - 1)))
    (h3 : 0 < (M.1 9 8) → (M.1 13 ((M.1 9 8) - 1).toNatClampNeg) = 1 → (M.1 15 ((M.1 9 8) - 1).toNatClampNeg) < 4 → WX mi_G_put 2 (fun rv M' => WX mi_G_goBack 4 Q 102 [some (.ref 9), some (.int (M.1 14 ((M.1 9 8) - 1).toNatClampNeg)), some (.int (M.1 15 ((M.1 9 8) - 1).toNatClampNeg))] (rv.toList ++ []) M') 0 [some (.ref 9), some (.int (rem (M.1 15 ((M.1 9 8) - 1).toNatClampNeg) 4)), some (.int (M.1 14 ((M.1 9 8) - 1).toNatClampNeg)), some (.int 0)] [] (wr M 9 8 ((M.1 9 8) - 1)))
    (h4 : 0 < (M.1 9 8) → (M.1 13 ((M.1 9 8) - 1).toNatClampNeg) = 1 → ¬ (M.1 15 ((M.1 9 8) - 1).toNatClampNeg) < 4 → WX mi_G_put 2 (fun rv M' => WX mi_G_goBack 4 Q 102 [some (.ref 9), some (.int (M.1 14 ((M.1 9 8) - 1).toNatClampNeg)), some (.int (M.1 15 ((M.1 9 8) - 1).toNatClampNeg))] (rv.toList ++ []) M') 0 [some (.ref 9), some (.int (rem (M.1 15 ((M.1 9 8) - 1).toNatClampNeg) 4)), some (.int (M.1 14 ((M.1 9 8) - 1).toNatClampNeg)), some (.int 1)] [] (wr M 9 8 ((M.1 9 8) - 1)))
    (b5 : 0 < (M.1 9 8) → (M.1 13 ((M.1 9 8) - 1).toNatClampNeg) = 2 → vp_in (M.1 14 ((M.1 9 8) - 1).toNatClampNeg) 16)
    (h6 : 0 < (M.1 9 8) → (M.1 13 ((M.1 9 8) - 1).toNatClampNeg) = 2 → Q (some (.int 1)) (wr (wr M 9 8 ((M.1 9 8) - 1)) 10 (M.1 14 ((M.1 9 8) - 1).toNatClampNeg).toNatClampNeg (M.1 15 ((M.1 9 8) - 1).toNatClampNeg)))
    (h7 : 0 < (M.1 9 8) → ¬ (M.1 13 ((M.1 9 8) - 1).toNatClampNeg) = 0 → ¬ (M.1 13 ((M.1 9 8) - 1).toNatClampNeg) = 1 → ¬ (M.1 13 ((M.1 9 8) - 1).toNatClampNeg) = 2 → Q (some (.int 1)) (wr (wr (wr M 9 8 ((M.1 9 8) - 1)) 9 3 (M.1 15 ((M.1 9 8) - 1).toNatClampNeg)) 9 4 ((M.1 9 4) - 1)))
    (h8 : ¬ 0 < (M.1 9 8) → Q (some (.int 0)) M) :
    WX mi_G_goBack 4 Q 0 [some (.ref 9), none, none] [] M := by
  refine WX.run (pc' := 4) (L' := [some (.ref 9), none, none]) (st' := [.int (M.1 9 8)]) (M' := M) (P := True) 2 rfl trivial ?_
  refine WX.if_gt (off := 5) (tgt := 9) rfl rfl (fun c1 => ?_) (fun c1 => ?_)
  · refine WX.run (pc' := 48) (L' := [some (.ref 9), some (.int (M.1 14 ((M.1 9 8) - 1).toNatClampNeg)), some (.int (M.1 15 ((M.1 9 8) - 1).toNatClampNeg))]) (st' := [.int (M.1 13 ((M.1 9 8) - 1).toNatClampNeg)]) (M' := (wr M 9 8 ((M.1 9 8) - 1))) (P := (((True ∧ vp_in ((M.1 9 8) - 1) 10) ∧ vp_in ((M.1 9 8) - 1) 10) ∧ vp_in ((M.1 9 8) - 1) 10)) 23 rfl ⟨⟨⟨trivial, (b1 c1)⟩, (b1 c1)⟩, (b1 c1)⟩ ?_
    by_cases c2 : (M.1 13 ((M.1 9 8) - 1).toNatClampNeg) = 0
    · refine WX.tsw (tgt := 76) rfl (by decide) (by rw [c2]; decide) ?_
      refine WX.run (pc' := 78) (L' := [some (.ref 9), some (.int (M.1 14 ((M.1 9 8) - 1).toNatClampNeg)), some (.int (M.1 15 ((M.1 9 8) - 1).toNatClampNeg))]) (st' := [.int (M.1 14 ((M.1 9 8) - 1).toNatClampNeg), .ref 9]) (M' := (wr M 9 8 ((M.1 9 8) - 1))) (P := True) 2 rfl trivial ?_
      refine WX.callV (ca := mi_G_take) (n := 1) (d' := 3) (st := []) (As := [.int (M.1 14 ((M.1 9 8) - 1).toNatClampNeg)]) (q := 9) rfl lk_0_60 ck_G_take cv_G_take rfl (by decide) rfl (Nat.le_of_ble_eq_true rfl) ⟨by decide, rfl, by decide⟩ (by intro w hw; simp only [List.mem_cons, List.not_mem_nil, or_false] at hw; rcases hw with rfl <;> rfl) (Nat.le_of_ble_eq_true rfl) ?_
      exact (h2 c1 c2)
    · skip
      by_cases c3 : (M.1 13 ((M.1 9 8) - 1).toNatClampNeg) = 1
      · refine WX.tsw (tgt := 84) rfl (by decide) (by rw [c3]; decide) ?_
        refine WX.run (pc' := 91) (L' := [some (.ref 9), some (.int (M.1 14 ((M.1 9 8) - 1).toNatClampNeg)), some (.int (M.1 15 ((M.1 9 8) - 1).toNatClampNeg))]) (st' := [.int 4, .int (M.1 15 ((M.1 9 8) - 1).toNatClampNeg), .int (M.1 14 ((M.1 9 8) - 1).toNatClampNeg), .int (rem (M.1 15 ((M.1 9 8) - 1).toNatClampNeg) 4), .ref 9]) (M' := (wr M 9 8 ((M.1 9 8) - 1))) (P := (True ∧ ¬ 4 = 0)) 7 rfl ⟨trivial, (by decide)⟩ ?_
        refine WX.icmp_lt (off := 7) (tgt := 98) rfl rfl (fun c4 => ?_) (fun c4 => ?_)
        · refine WX.run (pc' := 99) (L' := [some (.ref 9), some (.int (M.1 14 ((M.1 9 8) - 1).toNatClampNeg)), some (.int (M.1 15 ((M.1 9 8) - 1).toNatClampNeg))]) (st' := [.int 0, .int (M.1 14 ((M.1 9 8) - 1).toNatClampNeg), .int (rem (M.1 15 ((M.1 9 8) - 1).toNatClampNeg) 4), .ref 9]) (M' := (wr M 9 8 ((M.1 9 8) - 1))) (P := True) 1 rfl trivial ?_
          refine WX.callV (ca := mi_G_put) (n := 3) (d' := 2) (st := []) (As := [.int (rem (M.1 15 ((M.1 9 8) - 1).toNatClampNeg) 4), .int (M.1 14 ((M.1 9 8) - 1).toNatClampNeg), .int 0]) (q := 9) rfl lk_0_44 ck_G_put cv_G_put rfl (by decide) rfl (Nat.le_of_ble_eq_true rfl) ⟨by decide, rfl, by decide⟩ (by intro w hw; simp only [List.mem_cons, List.not_mem_nil, or_false] at hw; rcases hw with rfl | rfl | rfl <;> rfl) (Nat.le_of_ble_eq_true rfl) ?_
          exact (h3 c1 c3 c4)
        · refine WX.run (pc' := 99) (L' := [some (.ref 9), some (.int (M.1 14 ((M.1 9 8) - 1).toNatClampNeg)), some (.int (M.1 15 ((M.1 9 8) - 1).toNatClampNeg))]) (st' := [.int 1, .int (M.1 14 ((M.1 9 8) - 1).toNatClampNeg), .int (rem (M.1 15 ((M.1 9 8) - 1).toNatClampNeg) 4), .ref 9]) (M' := (wr M 9 8 ((M.1 9 8) - 1))) (P := True) 2 rfl trivial ?_
          refine WX.callV (ca := mi_G_put) (n := 3) (d' := 2) (st := []) (As := [.int (rem (M.1 15 ((M.1 9 8) - 1).toNatClampNeg) 4), .int (M.1 14 ((M.1 9 8) - 1).toNatClampNeg), .int 1]) (q := 9) rfl lk_0_44 ck_G_put cv_G_put rfl (by decide) rfl (Nat.le_of_ble_eq_true rfl) ⟨by decide, rfl, by decide⟩ (by intro w hw; simp only [List.mem_cons, List.not_mem_nil, or_false] at hw; rcases hw with rfl | rfl | rfl <;> rfl) (Nat.le_of_ble_eq_true rfl) ?_
          exact (h4 c1 c3 c4)
      · skip
        by_cases c5 : (M.1 13 ((M.1 9 8) - 1).toNatClampNeg) = 2
        · refine WX.tsw (tgt := 105) rfl (by decide) (by rw [c5]; decide) ?_
          refine WX.run (pc' := 108) (L' := [some (.ref 9), some (.int (M.1 14 ((M.1 9 8) - 1).toNatClampNeg)), some (.int (M.1 15 ((M.1 9 8) - 1).toNatClampNeg))]) (st' := [.int (M.1 15 ((M.1 9 8) - 1).toNatClampNeg), .int (M.1 14 ((M.1 9 8) - 1).toNatClampNeg), .ref 9]) (M' := (wr M 9 8 ((M.1 9 8) - 1))) (P := True) 3 rfl trivial ?_
          refine WX.callV (ca := mi_G_setHeight) (n := 2) (d' := 2) (st := []) (As := [.int (M.1 14 ((M.1 9 8) - 1).toNatClampNeg), .int (M.1 15 ((M.1 9 8) - 1).toNatClampNeg)]) (q := 9) rfl lk_0_67 ck_G_setHeight cv_G_setHeight rfl (by decide) rfl (Nat.le_of_ble_eq_true rfl) ⟨by decide, rfl, by decide⟩ (by intro w hw; simp only [List.mem_cons, List.not_mem_nil, or_false] at hw; rcases hw with rfl | rfl <;> rfl) (Nat.le_of_ble_eq_true rfl) ?_
          refine wx_G_setHeight_9b (wr M 9 8 ((M.1 9 8) - 1)) (M.1 14 ((M.1 9 8) - 1).toNatClampNeg) (M.1 15 ((M.1 9 8) - 1).toNatClampNeg) (b5 c1 c5) ?_
          show WX mi_G_goBack 4 Q 111 [some (.ref 9), some (.int (M.1 14 ((M.1 9 8) - 1).toNatClampNeg)), some (.int (M.1 15 ((M.1 9 8) - 1).toNatClampNeg))] [] (wr (wr M 9 8 ((M.1 9 8) - 1)) 10 (M.1 14 ((M.1 9 8) - 1).toNatClampNeg).toNatClampNeg (M.1 15 ((M.1 9 8) - 1).toNatClampNeg))
          refine WX.run (pc' := 130) (L' := [some (.ref 9), some (.int (M.1 14 ((M.1 9 8) - 1).toNatClampNeg)), some (.int (M.1 15 ((M.1 9 8) - 1).toNatClampNeg))]) (st' := [.int 1]) (M' := (wr (wr M 9 8 ((M.1 9 8) - 1)) 10 (M.1 14 ((M.1 9 8) - 1).toNatClampNeg).toNatClampNeg (M.1 15 ((M.1 9 8) - 1).toNatClampNeg))) (P := True) 2 rfl trivial ?_
          exact WX.zret rfl rfl (Or.inr rfl) (h6 c1 c5)
        · skip
          refine WX.tsw (tgt := 114) rfl (by decide) (by
                by_cases hr : ((M.1 13 ((M.1 9 8) - 1).toNatClampNeg)).toInt < 0 ∨ 2 < ((M.1 13 ((M.1 9 8) - 1).toNatClampNeg)).toInt
                · unfold tswo; rw [if_pos hr]; rfl
                · have hh : ((M.1 13 ((M.1 9 8) - 1).toNatClampNeg)).toInt = 0 ∨ ((M.1 13 ((M.1 9 8) - 1).toNatClampNeg)).toInt = 1 ∨ ((M.1 13 ((M.1 9 8) - 1).toNatClampNeg)).toInt = 2 := by omega
                  rcases hh with hh | hh | hh
                  · exact absurd hh (i32_ne c2 (by decide))
                  · exact absurd hh (i32_ne c3 (by decide))
                  · exact absurd hh (i32_ne c5 (by decide))) ?_
          refine WX.run (pc' := 130) (L' := [some (.ref 9), some (.int (M.1 14 ((M.1 9 8) - 1).toNatClampNeg)), some (.int (M.1 15 ((M.1 9 8) - 1).toNatClampNeg))]) (st' := [.int 1]) (M' := (wr (wr (wr M 9 8 ((M.1 9 8) - 1)) 9 3 (M.1 15 ((M.1 9 8) - 1).toNatClampNeg)) 9 4 ((M.1 9 4) - 1))) (P := True) 10 rfl trivial ?_
          exact WX.zret rfl rfl (Or.inr rfl) (h7 c1 c2 c3 c5)
  · refine WX.run (pc' := 8) (L' := [some (.ref 9), none, none]) (st' := [.int 0]) (M' := M) (P := True) 1 rfl trivial ?_
    exact WX.zret rfl rfl (Or.inl rfl) (h8 c1)
theorem sg_G_goBack_9_81 {Q : Option Value → Mem → Prop} (M : Mem) (x1 x2 : Int32)
    (h1 : Q (some (.int 1)) M) :
    WX mi_G_goBack 4 Q 81 [some (.ref 9), some (.int x1), some (.int x2)] [] M := by
  refine WX.run (pc' := 130) (L' := [some (.ref 9), some (.int x1), some (.int x2)]) (st' := [.int 1]) (M' := M) (P := True) 2 rfl trivial ?_
  exact WX.zret rfl rfl (Or.inr rfl) h1
theorem sg_G_goBack_9_102 {Q : Option Value → Mem → Prop} (M : Mem) (x1 x2 : Int32)
    (h1 : Q (some (.int 1)) M) :
    WX mi_G_goBack 4 Q 102 [some (.ref 9), some (.int x1), some (.int x2)] [] M := by
  refine WX.run (pc' := 130) (L' := [some (.ref 9), some (.int x1), some (.int x2)]) (st' := [.int 1]) (M' := M) (P := True) 2 rfl trivial ?_
  exact WX.zret rfl rfl (Or.inr rfl) h1
theorem sg_G_startOn_9_6_0 {Q : Option Value → Mem → Prop} (M : Mem)
    (h1 : WX mi_G_startOn 1 Q 2 [some (.ref 9), some (.ref 6), some (.int 0)] [] M) :
    WX mi_G_startOn 1 Q 0 [some (.ref 9), some (.ref 6), none] [] M := by
  refine WX.run (pc' := 2) (L' := [some (.ref 9), some (.ref 6), some (.int 0)]) (st' := []) (M' := M) (P := True) 2 rfl trivial ?_
  exact h1
theorem sg_G_startOn_9_6_2 {Q : Option Value → Mem → Prop} (M : Mem) (x2 : Int32)
    (h1 : 16 ≤ x2 → WX mi_G_startOn 1 Q 36 [some (.ref 9), some (.ref 6), some (.int 0)] [] M)
    (b2 : ¬ 16 ≤ x2 → vp_in x2 16)
    (h3 : ¬ 16 ≤ x2 → WX mi_G_startOn 1 Q 2 [some (.ref 9), some (.ref 6), some (.int (x2 + 1))] [] (wr (wr M 10 x2.toNatClampNeg (M.1 7 x2.toNatClampNeg)) 11 x2.toNatClampNeg (-9))) :
    WX mi_G_startOn 1 Q 2 [some (.ref 9), some (.ref 6), some (.int x2)] [] M := by
  refine WX.run (pc' := 5) (L' := [some (.ref 9), some (.ref 6), some (.int x2)]) (st' := [.int 16, .int x2]) (M' := M) (P := True) 2 rfl trivial ?_
  refine WX.icmp_ge (off := 29) (tgt := 34) rfl rfl (fun c1 => ?_) (fun c1 => ?_)
  · refine WX.run (pc' := 36) (L' := [some (.ref 9), some (.ref 6), some (.int 0)]) (st' := []) (M' := M) (P := True) 2 rfl trivial ?_
    exact (h1 c1)
  · refine WX.run (pc' := 2) (L' := [some (.ref 9), some (.ref 6), some (.int (x2 + 1))]) (st' := []) (M' := (wr (wr M 10 x2.toNatClampNeg (M.1 7 x2.toNatClampNeg)) 11 x2.toNatClampNeg (-9))) (P := (((True ∧ vp_in x2 16) ∧ vp_in x2 16) ∧ vp_in x2 16)) 15 rfl ⟨⟨⟨trivial, (b2 c1)⟩, (b2 c1)⟩, (b2 c1)⟩ ?_
    exact (h3 c1)
theorem sg_G_startOn_9_6_36 {Q : Option Value → Mem → Prop} (M : Mem) (x2 : Int32)
    (h1 : 4 ≤ x2 → Q none (wr (wr (wr M 9 3 0) 9 4 0) 9 8 0))
    (b2 : ¬ 4 ≤ x2 → vp_in x2 4)
    (h3 : ¬ 4 ≤ x2 → WX mi_G_startOn 1 Q 36 [some (.ref 9), some (.ref 6), some (.int (x2 + 1))] [] (wr M 12 x2.toNatClampNeg (M.1 8 x2.toNatClampNeg))) :
    WX mi_G_startOn 1 Q 36 [some (.ref 9), some (.ref 6), some (.int x2)] [] M := by
  refine WX.run (pc' := 38) (L' := [some (.ref 9), some (.ref 6), some (.int x2)]) (st' := [.int 4, .int x2]) (M' := M) (P := True) 2 rfl trivial ?_
  refine WX.icmp_ge (off := 21) (tgt := 59) rfl rfl (fun c1 => ?_) (fun c1 => ?_)
  · refine WX.run (pc' := 74) (L' := [some (.ref 9), some (.ref 6), some (.int x2)]) (st' := []) (M' := (wr (wr (wr M 9 3 0) 9 4 0) 9 8 0)) (P := True) 9 rfl trivial ?_
    exact WX.vret rfl rfl (h1 c1)
  · refine WX.run (pc' := 36) (L' := [some (.ref 9), some (.ref 6), some (.int (x2 + 1))]) (st' := []) (M' := (wr M 12 x2.toNatClampNeg (M.1 8 x2.toNatClampNeg))) (P := ((True ∧ vp_in x2 4) ∧ vp_in x2 4)) 10 rfl ⟨⟨trivial, (b2 c1)⟩, (b2 c1)⟩ ?_
    exact (h3 c1)
theorem sg_G_copyFrom_16_9_0 {Q : Option Value → Mem → Prop} (M : Mem)
    (h1 : WX mi_G_copyFrom 1 Q 2 [some (.ref 16), some (.ref 9), some (.int 0)] [] M) :
    WX mi_G_copyFrom 1 Q 0 [some (.ref 16), some (.ref 9), none] [] M := by
  refine WX.run (pc' := 2) (L' := [some (.ref 16), some (.ref 9), some (.int 0)]) (st' := []) (M' := M) (P := True) 2 rfl trivial ?_
  exact h1
theorem sg_G_copyFrom_16_9_2 {Q : Option Value → Mem → Prop} (M : Mem) (x2 : Int32)
    (h1 : 16 ≤ x2 → WX mi_G_copyFrom 1 Q 40 [some (.ref 16), some (.ref 9), some (.int 0)] [] M)
    (b2 : ¬ 16 ≤ x2 → vp_in x2 16)
    (h3 : ¬ 16 ≤ x2 → WX mi_G_copyFrom 1 Q 2 [some (.ref 16), some (.ref 9), some (.int (x2 + 1))] [] (wr (wr M 17 x2.toNatClampNeg (M.1 10 x2.toNatClampNeg)) 18 x2.toNatClampNeg (M.1 11 x2.toNatClampNeg))) :
    WX mi_G_copyFrom 1 Q 2 [some (.ref 16), some (.ref 9), some (.int x2)] [] M := by
  refine WX.run (pc' := 5) (L' := [some (.ref 16), some (.ref 9), some (.int x2)]) (st' := [.int 16, .int x2]) (M' := M) (P := True) 2 rfl trivial ?_
  refine WX.icmp_ge (off := 33) (tgt := 38) rfl rfl (fun c1 => ?_) (fun c1 => ?_)
  · refine WX.run (pc' := 40) (L' := [some (.ref 16), some (.ref 9), some (.int 0)]) (st' := []) (M' := M) (P := True) 2 rfl trivial ?_
    exact (h1 c1)
  · refine WX.run (pc' := 2) (L' := [some (.ref 16), some (.ref 9), some (.int (x2 + 1))]) (st' := []) (M' := (wr (wr M 17 x2.toNatClampNeg (M.1 10 x2.toNatClampNeg)) 18 x2.toNatClampNeg (M.1 11 x2.toNatClampNeg))) (P := ((((True ∧ vp_in x2 16) ∧ vp_in x2 16) ∧ vp_in x2 16) ∧ vp_in x2 16)) 18 rfl ⟨⟨⟨⟨trivial, (b2 c1)⟩, (b2 c1)⟩, (b2 c1)⟩, (b2 c1)⟩ ?_
    exact (h3 c1)
theorem sg_G_copyFrom_16_9_40 {Q : Option Value → Mem → Prop} (M : Mem) (x2 : Int32)
    (h1 : 4 ≤ x2 → WX mi_G_copyFrom 1 Q 65 [some (.ref 16), some (.ref 9), some (.int 0)] [] M)
    (b2 : ¬ 4 ≤ x2 → vp_in x2 4)
    (h3 : ¬ 4 ≤ x2 → WX mi_G_copyFrom 1 Q 40 [some (.ref 16), some (.ref 9), some (.int (x2 + 1))] [] (wr M 19 x2.toNatClampNeg (M.1 12 x2.toNatClampNeg))) :
    WX mi_G_copyFrom 1 Q 40 [some (.ref 16), some (.ref 9), some (.int x2)] [] M := by
  refine WX.run (pc' := 42) (L' := [some (.ref 16), some (.ref 9), some (.int x2)]) (st' := [.int 4, .int x2]) (M' := M) (P := True) 2 rfl trivial ?_
  refine WX.icmp_ge (off := 21) (tgt := 63) rfl rfl (fun c1 => ?_) (fun c1 => ?_)
  · refine WX.run (pc' := 65) (L' := [some (.ref 16), some (.ref 9), some (.int 0)]) (st' := []) (M' := M) (P := True) 2 rfl trivial ?_
    exact (h1 c1)
  · refine WX.run (pc' := 40) (L' := [some (.ref 16), some (.ref 9), some (.int (x2 + 1))]) (st' := []) (M' := (wr M 19 x2.toNatClampNeg (M.1 12 x2.toNatClampNeg))) (P := ((True ∧ vp_in x2 4) ∧ vp_in x2 4)) 10 rfl ⟨⟨trivial, (b2 c1)⟩, (b2 c1)⟩ ?_
    exact (h3 c1)
theorem sg_G_copyFrom_16_9_65 {Q : Option Value → Mem → Prop} (M : Mem) (x2 : Int32)
    (h1 : 10 ≤ x2 → Q none (wr (wr (wr M 16 3 (M.1 9 3)) 16 4 (M.1 9 4)) 16 8 (M.1 9 8)))
    (b2 : ¬ 10 ≤ x2 → vp_in x2 10)
    (h3 : ¬ 10 ≤ x2 → WX mi_G_copyFrom 1 Q 65 [some (.ref 16), some (.ref 9), some (.int (x2 + 1))] [] (wr (wr (wr M 20 x2.toNatClampNeg (M.1 13 x2.toNatClampNeg)) 21 x2.toNatClampNeg (M.1 14 x2.toNatClampNeg)) 22 x2.toNatClampNeg (M.1 15 x2.toNatClampNeg))) :
    WX mi_G_copyFrom 1 Q 65 [some (.ref 16), some (.ref 9), some (.int x2)] [] M := by
  refine WX.run (pc' := 68) (L' := [some (.ref 16), some (.ref 9), some (.int x2)]) (st' := [.int 10, .int x2]) (M' := M) (P := True) 2 rfl trivial ?_
  refine WX.icmp_ge (off := 45) (tgt := 113) rfl rfl (fun c1 => ?_) (fun c1 => ?_)
  · refine WX.run (pc' := 137) (L' := [some (.ref 16), some (.ref 9), some (.int x2)]) (st' := []) (M' := (wr (wr (wr M 16 3 (M.1 9 3)) 16 4 (M.1 9 4)) 16 8 (M.1 9 8))) (P := True) 12 rfl trivial ?_
    exact WX.vret rfl rfl (h1 c1)
  · refine WX.run (pc' := 65) (L' := [some (.ref 16), some (.ref 9), some (.int (x2 + 1))]) (st' := []) (M' := (wr (wr (wr M 20 x2.toNatClampNeg (M.1 13 x2.toNatClampNeg)) 21 x2.toNatClampNeg (M.1 14 x2.toNatClampNeg)) 22 x2.toNatClampNeg (M.1 15 x2.toNatClampNeg))) (P := ((((((True ∧ vp_in x2 10) ∧ vp_in x2 10) ∧ vp_in x2 10) ∧ vp_in x2 10) ∧ vp_in x2 10) ∧ vp_in x2 10)) 26 rfl ⟨⟨⟨⟨⟨⟨trivial, (b2 c1)⟩, (b2 c1)⟩, (b2 c1)⟩, (b2 c1)⟩, (b2 c1)⟩, (b2 c1)⟩ ?_
    exact (h3 c1)
theorem sg_G_copyFrom_23_9_0 {Q : Option Value → Mem → Prop} (M : Mem)
    (h1 : WX mi_G_copyFrom 1 Q 2 [some (.ref 23), some (.ref 9), some (.int 0)] [] M) :
    WX mi_G_copyFrom 1 Q 0 [some (.ref 23), some (.ref 9), none] [] M := by
  refine WX.run (pc' := 2) (L' := [some (.ref 23), some (.ref 9), some (.int 0)]) (st' := []) (M' := M) (P := True) 2 rfl trivial ?_
  exact h1
theorem sg_G_copyFrom_23_9_2 {Q : Option Value → Mem → Prop} (M : Mem) (x2 : Int32)
    (h1 : 16 ≤ x2 → WX mi_G_copyFrom 1 Q 40 [some (.ref 23), some (.ref 9), some (.int 0)] [] M)
    (b2 : ¬ 16 ≤ x2 → vp_in x2 16)
    (h3 : ¬ 16 ≤ x2 → WX mi_G_copyFrom 1 Q 2 [some (.ref 23), some (.ref 9), some (.int (x2 + 1))] [] (wr (wr M 24 x2.toNatClampNeg (M.1 10 x2.toNatClampNeg)) 25 x2.toNatClampNeg (M.1 11 x2.toNatClampNeg))) :
    WX mi_G_copyFrom 1 Q 2 [some (.ref 23), some (.ref 9), some (.int x2)] [] M := by
  refine WX.run (pc' := 5) (L' := [some (.ref 23), some (.ref 9), some (.int x2)]) (st' := [.int 16, .int x2]) (M' := M) (P := True) 2 rfl trivial ?_
  refine WX.icmp_ge (off := 33) (tgt := 38) rfl rfl (fun c1 => ?_) (fun c1 => ?_)
  · refine WX.run (pc' := 40) (L' := [some (.ref 23), some (.ref 9), some (.int 0)]) (st' := []) (M' := M) (P := True) 2 rfl trivial ?_
    exact (h1 c1)
  · refine WX.run (pc' := 2) (L' := [some (.ref 23), some (.ref 9), some (.int (x2 + 1))]) (st' := []) (M' := (wr (wr M 24 x2.toNatClampNeg (M.1 10 x2.toNatClampNeg)) 25 x2.toNatClampNeg (M.1 11 x2.toNatClampNeg))) (P := ((((True ∧ vp_in x2 16) ∧ vp_in x2 16) ∧ vp_in x2 16) ∧ vp_in x2 16)) 18 rfl ⟨⟨⟨⟨trivial, (b2 c1)⟩, (b2 c1)⟩, (b2 c1)⟩, (b2 c1)⟩ ?_
    exact (h3 c1)
theorem sg_G_copyFrom_23_9_40 {Q : Option Value → Mem → Prop} (M : Mem) (x2 : Int32)
    (h1 : 4 ≤ x2 → WX mi_G_copyFrom 1 Q 65 [some (.ref 23), some (.ref 9), some (.int 0)] [] M)
    (b2 : ¬ 4 ≤ x2 → vp_in x2 4)
    (h3 : ¬ 4 ≤ x2 → WX mi_G_copyFrom 1 Q 40 [some (.ref 23), some (.ref 9), some (.int (x2 + 1))] [] (wr M 26 x2.toNatClampNeg (M.1 12 x2.toNatClampNeg))) :
    WX mi_G_copyFrom 1 Q 40 [some (.ref 23), some (.ref 9), some (.int x2)] [] M := by
  refine WX.run (pc' := 42) (L' := [some (.ref 23), some (.ref 9), some (.int x2)]) (st' := [.int 4, .int x2]) (M' := M) (P := True) 2 rfl trivial ?_
  refine WX.icmp_ge (off := 21) (tgt := 63) rfl rfl (fun c1 => ?_) (fun c1 => ?_)
  · refine WX.run (pc' := 65) (L' := [some (.ref 23), some (.ref 9), some (.int 0)]) (st' := []) (M' := M) (P := True) 2 rfl trivial ?_
    exact (h1 c1)
  · refine WX.run (pc' := 40) (L' := [some (.ref 23), some (.ref 9), some (.int (x2 + 1))]) (st' := []) (M' := (wr M 26 x2.toNatClampNeg (M.1 12 x2.toNatClampNeg))) (P := ((True ∧ vp_in x2 4) ∧ vp_in x2 4)) 10 rfl ⟨⟨trivial, (b2 c1)⟩, (b2 c1)⟩ ?_
    exact (h3 c1)
theorem sg_G_copyFrom_23_9_65 {Q : Option Value → Mem → Prop} (M : Mem) (x2 : Int32)
    (h1 : 10 ≤ x2 → Q none (wr (wr (wr M 23 3 (M.1 9 3)) 23 4 (M.1 9 4)) 23 8 (M.1 9 8)))
    (b2 : ¬ 10 ≤ x2 → vp_in x2 10)
    (h3 : ¬ 10 ≤ x2 → WX mi_G_copyFrom 1 Q 65 [some (.ref 23), some (.ref 9), some (.int (x2 + 1))] [] (wr (wr (wr M 27 x2.toNatClampNeg (M.1 13 x2.toNatClampNeg)) 28 x2.toNatClampNeg (M.1 14 x2.toNatClampNeg)) 29 x2.toNatClampNeg (M.1 15 x2.toNatClampNeg))) :
    WX mi_G_copyFrom 1 Q 65 [some (.ref 23), some (.ref 9), some (.int x2)] [] M := by
  refine WX.run (pc' := 68) (L' := [some (.ref 23), some (.ref 9), some (.int x2)]) (st' := [.int 10, .int x2]) (M' := M) (P := True) 2 rfl trivial ?_
  refine WX.icmp_ge (off := 45) (tgt := 113) rfl rfl (fun c1 => ?_) (fun c1 => ?_)
  · refine WX.run (pc' := 137) (L' := [some (.ref 23), some (.ref 9), some (.int x2)]) (st' := []) (M' := (wr (wr (wr M 23 3 (M.1 9 3)) 23 4 (M.1 9 4)) 23 8 (M.1 9 8))) (P := True) 12 rfl trivial ?_
    exact WX.vret rfl rfl (h1 c1)
  · refine WX.run (pc' := 65) (L' := [some (.ref 23), some (.ref 9), some (.int (x2 + 1))]) (st' := []) (M' := (wr (wr (wr M 27 x2.toNatClampNeg (M.1 13 x2.toNatClampNeg)) 28 x2.toNatClampNeg (M.1 14 x2.toNatClampNeg)) 29 x2.toNatClampNeg (M.1 15 x2.toNatClampNeg))) (P := ((((((True ∧ vp_in x2 10) ∧ vp_in x2 10) ∧ vp_in x2 10) ∧ vp_in x2 10) ∧ vp_in x2 10) ∧ vp_in x2 10)) 26 rfl ⟨⟨⟨⟨⟨⟨trivial, (b2 c1)⟩, (b2 c1)⟩, (b2 c1)⟩, (b2 c1)⟩, (b2 c1)⟩, (b2 c1)⟩ ?_
    exact (h3 c1)
theorem sg_G_copyFrom_9_16_0 {Q : Option Value → Mem → Prop} (M : Mem)
    (h1 : WX mi_G_copyFrom 1 Q 2 [some (.ref 9), some (.ref 16), some (.int 0)] [] M) :
    WX mi_G_copyFrom 1 Q 0 [some (.ref 9), some (.ref 16), none] [] M := by
  refine WX.run (pc' := 2) (L' := [some (.ref 9), some (.ref 16), some (.int 0)]) (st' := []) (M' := M) (P := True) 2 rfl trivial ?_
  exact h1
theorem sg_G_copyFrom_9_16_2 {Q : Option Value → Mem → Prop} (M : Mem) (x2 : Int32)
    (h1 : 16 ≤ x2 → WX mi_G_copyFrom 1 Q 40 [some (.ref 9), some (.ref 16), some (.int 0)] [] M)
    (b2 : ¬ 16 ≤ x2 → vp_in x2 16)
    (h3 : ¬ 16 ≤ x2 → WX mi_G_copyFrom 1 Q 2 [some (.ref 9), some (.ref 16), some (.int (x2 + 1))] [] (wr (wr M 10 x2.toNatClampNeg (M.1 17 x2.toNatClampNeg)) 11 x2.toNatClampNeg (M.1 18 x2.toNatClampNeg))) :
    WX mi_G_copyFrom 1 Q 2 [some (.ref 9), some (.ref 16), some (.int x2)] [] M := by
  refine WX.run (pc' := 5) (L' := [some (.ref 9), some (.ref 16), some (.int x2)]) (st' := [.int 16, .int x2]) (M' := M) (P := True) 2 rfl trivial ?_
  refine WX.icmp_ge (off := 33) (tgt := 38) rfl rfl (fun c1 => ?_) (fun c1 => ?_)
  · refine WX.run (pc' := 40) (L' := [some (.ref 9), some (.ref 16), some (.int 0)]) (st' := []) (M' := M) (P := True) 2 rfl trivial ?_
    exact (h1 c1)
  · refine WX.run (pc' := 2) (L' := [some (.ref 9), some (.ref 16), some (.int (x2 + 1))]) (st' := []) (M' := (wr (wr M 10 x2.toNatClampNeg (M.1 17 x2.toNatClampNeg)) 11 x2.toNatClampNeg (M.1 18 x2.toNatClampNeg))) (P := ((((True ∧ vp_in x2 16) ∧ vp_in x2 16) ∧ vp_in x2 16) ∧ vp_in x2 16)) 18 rfl ⟨⟨⟨⟨trivial, (b2 c1)⟩, (b2 c1)⟩, (b2 c1)⟩, (b2 c1)⟩ ?_
    exact (h3 c1)
theorem sg_G_copyFrom_9_16_40 {Q : Option Value → Mem → Prop} (M : Mem) (x2 : Int32)
    (h1 : 4 ≤ x2 → WX mi_G_copyFrom 1 Q 65 [some (.ref 9), some (.ref 16), some (.int 0)] [] M)
    (b2 : ¬ 4 ≤ x2 → vp_in x2 4)
    (h3 : ¬ 4 ≤ x2 → WX mi_G_copyFrom 1 Q 40 [some (.ref 9), some (.ref 16), some (.int (x2 + 1))] [] (wr M 12 x2.toNatClampNeg (M.1 19 x2.toNatClampNeg))) :
    WX mi_G_copyFrom 1 Q 40 [some (.ref 9), some (.ref 16), some (.int x2)] [] M := by
  refine WX.run (pc' := 42) (L' := [some (.ref 9), some (.ref 16), some (.int x2)]) (st' := [.int 4, .int x2]) (M' := M) (P := True) 2 rfl trivial ?_
  refine WX.icmp_ge (off := 21) (tgt := 63) rfl rfl (fun c1 => ?_) (fun c1 => ?_)
  · refine WX.run (pc' := 65) (L' := [some (.ref 9), some (.ref 16), some (.int 0)]) (st' := []) (M' := M) (P := True) 2 rfl trivial ?_
    exact (h1 c1)
  · refine WX.run (pc' := 40) (L' := [some (.ref 9), some (.ref 16), some (.int (x2 + 1))]) (st' := []) (M' := (wr M 12 x2.toNatClampNeg (M.1 19 x2.toNatClampNeg))) (P := ((True ∧ vp_in x2 4) ∧ vp_in x2 4)) 10 rfl ⟨⟨trivial, (b2 c1)⟩, (b2 c1)⟩ ?_
    exact (h3 c1)
theorem sg_G_copyFrom_9_16_65 {Q : Option Value → Mem → Prop} (M : Mem) (x2 : Int32)
    (h1 : 10 ≤ x2 → Q none (wr (wr (wr M 9 3 (M.1 16 3)) 9 4 (M.1 16 4)) 9 8 (M.1 16 8)))
    (b2 : ¬ 10 ≤ x2 → vp_in x2 10)
    (h3 : ¬ 10 ≤ x2 → WX mi_G_copyFrom 1 Q 65 [some (.ref 9), some (.ref 16), some (.int (x2 + 1))] [] (wr (wr (wr M 13 x2.toNatClampNeg (M.1 20 x2.toNatClampNeg)) 14 x2.toNatClampNeg (M.1 21 x2.toNatClampNeg)) 15 x2.toNatClampNeg (M.1 22 x2.toNatClampNeg))) :
    WX mi_G_copyFrom 1 Q 65 [some (.ref 9), some (.ref 16), some (.int x2)] [] M := by
  refine WX.run (pc' := 68) (L' := [some (.ref 9), some (.ref 16), some (.int x2)]) (st' := [.int 10, .int x2]) (M' := M) (P := True) 2 rfl trivial ?_
  refine WX.icmp_ge (off := 45) (tgt := 113) rfl rfl (fun c1 => ?_) (fun c1 => ?_)
  · refine WX.run (pc' := 137) (L' := [some (.ref 9), some (.ref 16), some (.int x2)]) (st' := []) (M' := (wr (wr (wr M 9 3 (M.1 16 3)) 9 4 (M.1 16 4)) 9 8 (M.1 16 8))) (P := True) 12 rfl trivial ?_
    exact WX.vret rfl rfl (h1 c1)
  · refine WX.run (pc' := 65) (L' := [some (.ref 9), some (.ref 16), some (.int (x2 + 1))]) (st' := []) (M' := (wr (wr (wr M 13 x2.toNatClampNeg (M.1 20 x2.toNatClampNeg)) 14 x2.toNatClampNeg (M.1 21 x2.toNatClampNeg)) 15 x2.toNatClampNeg (M.1 22 x2.toNatClampNeg))) (P := ((((((True ∧ vp_in x2 10) ∧ vp_in x2 10) ∧ vp_in x2 10) ∧ vp_in x2 10) ∧ vp_in x2 10) ∧ vp_in x2 10)) 26 rfl ⟨⟨⟨⟨⟨⟨trivial, (b2 c1)⟩, (b2 c1)⟩, (b2 c1)⟩, (b2 c1)⟩, (b2 c1)⟩, (b2 c1)⟩ ?_
    exact (h3 c1)
theorem sg_G_copyFrom_9_23_0 {Q : Option Value → Mem → Prop} (M : Mem)
    (h1 : WX mi_G_copyFrom 1 Q 2 [some (.ref 9), some (.ref 23), some (.int 0)] [] M) :
    WX mi_G_copyFrom 1 Q 0 [some (.ref 9), some (.ref 23), none] [] M := by
  refine WX.run (pc' := 2) (L' := [some (.ref 9), some (.ref 23), some (.int 0)]) (st' := []) (M' := M) (P := True) 2 rfl trivial ?_
  exact h1
theorem sg_G_copyFrom_9_23_2 {Q : Option Value → Mem → Prop} (M : Mem) (x2 : Int32)
    (h1 : 16 ≤ x2 → WX mi_G_copyFrom 1 Q 40 [some (.ref 9), some (.ref 23), some (.int 0)] [] M)
    (b2 : ¬ 16 ≤ x2 → vp_in x2 16)
    (h3 : ¬ 16 ≤ x2 → WX mi_G_copyFrom 1 Q 2 [some (.ref 9), some (.ref 23), some (.int (x2 + 1))] [] (wr (wr M 10 x2.toNatClampNeg (M.1 24 x2.toNatClampNeg)) 11 x2.toNatClampNeg (M.1 25 x2.toNatClampNeg))) :
    WX mi_G_copyFrom 1 Q 2 [some (.ref 9), some (.ref 23), some (.int x2)] [] M := by
  refine WX.run (pc' := 5) (L' := [some (.ref 9), some (.ref 23), some (.int x2)]) (st' := [.int 16, .int x2]) (M' := M) (P := True) 2 rfl trivial ?_
  refine WX.icmp_ge (off := 33) (tgt := 38) rfl rfl (fun c1 => ?_) (fun c1 => ?_)
  · refine WX.run (pc' := 40) (L' := [some (.ref 9), some (.ref 23), some (.int 0)]) (st' := []) (M' := M) (P := True) 2 rfl trivial ?_
    exact (h1 c1)
  · refine WX.run (pc' := 2) (L' := [some (.ref 9), some (.ref 23), some (.int (x2 + 1))]) (st' := []) (M' := (wr (wr M 10 x2.toNatClampNeg (M.1 24 x2.toNatClampNeg)) 11 x2.toNatClampNeg (M.1 25 x2.toNatClampNeg))) (P := ((((True ∧ vp_in x2 16) ∧ vp_in x2 16) ∧ vp_in x2 16) ∧ vp_in x2 16)) 18 rfl ⟨⟨⟨⟨trivial, (b2 c1)⟩, (b2 c1)⟩, (b2 c1)⟩, (b2 c1)⟩ ?_
    exact (h3 c1)
theorem sg_G_copyFrom_9_23_40 {Q : Option Value → Mem → Prop} (M : Mem) (x2 : Int32)
    (h1 : 4 ≤ x2 → WX mi_G_copyFrom 1 Q 65 [some (.ref 9), some (.ref 23), some (.int 0)] [] M)
    (b2 : ¬ 4 ≤ x2 → vp_in x2 4)
    (h3 : ¬ 4 ≤ x2 → WX mi_G_copyFrom 1 Q 40 [some (.ref 9), some (.ref 23), some (.int (x2 + 1))] [] (wr M 12 x2.toNatClampNeg (M.1 26 x2.toNatClampNeg))) :
    WX mi_G_copyFrom 1 Q 40 [some (.ref 9), some (.ref 23), some (.int x2)] [] M := by
  refine WX.run (pc' := 42) (L' := [some (.ref 9), some (.ref 23), some (.int x2)]) (st' := [.int 4, .int x2]) (M' := M) (P := True) 2 rfl trivial ?_
  refine WX.icmp_ge (off := 21) (tgt := 63) rfl rfl (fun c1 => ?_) (fun c1 => ?_)
  · refine WX.run (pc' := 65) (L' := [some (.ref 9), some (.ref 23), some (.int 0)]) (st' := []) (M' := M) (P := True) 2 rfl trivial ?_
    exact (h1 c1)
  · refine WX.run (pc' := 40) (L' := [some (.ref 9), some (.ref 23), some (.int (x2 + 1))]) (st' := []) (M' := (wr M 12 x2.toNatClampNeg (M.1 26 x2.toNatClampNeg))) (P := ((True ∧ vp_in x2 4) ∧ vp_in x2 4)) 10 rfl ⟨⟨trivial, (b2 c1)⟩, (b2 c1)⟩ ?_
    exact (h3 c1)
theorem sg_G_copyFrom_9_23_65 {Q : Option Value → Mem → Prop} (M : Mem) (x2 : Int32)
    (h1 : 10 ≤ x2 → Q none (wr (wr (wr M 9 3 (M.1 23 3)) 9 4 (M.1 23 4)) 9 8 (M.1 23 8)))
    (b2 : ¬ 10 ≤ x2 → vp_in x2 10)
    (h3 : ¬ 10 ≤ x2 → WX mi_G_copyFrom 1 Q 65 [some (.ref 9), some (.ref 23), some (.int (x2 + 1))] [] (wr (wr (wr M 13 x2.toNatClampNeg (M.1 27 x2.toNatClampNeg)) 14 x2.toNatClampNeg (M.1 28 x2.toNatClampNeg)) 15 x2.toNatClampNeg (M.1 29 x2.toNatClampNeg))) :
    WX mi_G_copyFrom 1 Q 65 [some (.ref 9), some (.ref 23), some (.int x2)] [] M := by
  refine WX.run (pc' := 68) (L' := [some (.ref 9), some (.ref 23), some (.int x2)]) (st' := [.int 10, .int x2]) (M' := M) (P := True) 2 rfl trivial ?_
  refine WX.icmp_ge (off := 45) (tgt := 113) rfl rfl (fun c1 => ?_) (fun c1 => ?_)
  · refine WX.run (pc' := 137) (L' := [some (.ref 9), some (.ref 23), some (.int x2)]) (st' := []) (M' := (wr (wr (wr M 9 3 (M.1 23 3)) 9 4 (M.1 23 4)) 9 8 (M.1 23 8))) (P := True) 12 rfl trivial ?_
    exact WX.vret rfl rfl (h1 c1)
  · refine WX.run (pc' := 65) (L' := [some (.ref 9), some (.ref 23), some (.int (x2 + 1))]) (st' := []) (M' := (wr (wr (wr M 13 x2.toNatClampNeg (M.1 27 x2.toNatClampNeg)) 14 x2.toNatClampNeg (M.1 28 x2.toNatClampNeg)) 15 x2.toNatClampNeg (M.1 29 x2.toNatClampNeg))) (P := ((((((True ∧ vp_in x2 10) ∧ vp_in x2 10) ∧ vp_in x2 10) ∧ vp_in x2 10) ∧ vp_in x2 10) ∧ vp_in x2 10)) 26 rfl ⟨⟨⟨⟨⟨⟨trivial, (b2 c1)⟩, (b2 c1)⟩, (b2 c1)⟩, (b2 c1)⟩, (b2 c1)⟩, (b2 c1)⟩ ?_
    exact (h3 c1)
theorem sg_R_sortOf_0 {Q : Option Value → Mem → Prop} (M : Mem) (x0 : Int32)
    (h1 : x0 < 97 → x0 < 48 → ¬ x0 = 59 → Q (some (.int 4)) M)
    (h2 : x0 < 97 → x0 < 48 → x0 = 59 → Q (some (.int 3)) M)
    (h3 : x0 < 97 → ¬ x0 < 48 → 57 < x0 → ¬ x0 = 59 → Q (some (.int 4)) M)
    (h4 : x0 < 97 → ¬ x0 < 48 → 57 < x0 → x0 = 59 → Q (some (.int 3)) M)
    (h5 : x0 < 97 → ¬ x0 < 48 → ¬ 57 < x0 → Q (some (.int 2)) M)
    (h6 : ¬ x0 < 97 → 122 < x0 → x0 < 48 → ¬ x0 = 59 → Q (some (.int 4)) M)
    (h7 : ¬ x0 < 97 → 122 < x0 → x0 < 48 → x0 = 59 → Q (some (.int 3)) M)
    (h8 : ¬ x0 < 97 → 122 < x0 → ¬ x0 < 48 → 57 < x0 → ¬ x0 = 59 → Q (some (.int 4)) M)
    (h9 : ¬ x0 < 97 → 122 < x0 → ¬ x0 < 48 → 57 < x0 → x0 = 59 → Q (some (.int 3)) M)
    (h10 : ¬ x0 < 97 → 122 < x0 → ¬ x0 < 48 → ¬ 57 < x0 → Q (some (.int 2)) M)
    (h11 : ¬ x0 < 97 → ¬ 122 < x0 → Q (some (.int 1)) M) :
    WX mi_R_sortOf 1 Q 0 [some (.int x0)] [] M := by
  refine WX.run (pc' := 3) (L' := [some (.int x0)]) (st' := [.int 97, .int x0]) (M' := M) (P := True) 2 rfl trivial ?_
  refine WX.icmp_lt (off := 11) (tgt := 14) rfl rfl (fun c1 => ?_) (fun c1 => ?_)
  · refine WX.run (pc' := 17) (L' := [some (.int x0)]) (st' := [.int 48, .int x0]) (M' := M) (P := True) 2 rfl trivial ?_
    refine WX.icmp_lt (off := 11) (tgt := 28) rfl rfl (fun c2 => ?_) (fun c2 => ?_)
    · refine WX.run (pc' := 31) (L' := [some (.int x0)]) (st' := [.int 59, .int x0]) (M' := M) (P := True) 2 rfl trivial ?_
      refine WX.icmp_ne (off := 7) (tgt := 38) rfl rfl (fun c3 => ?_) (fun c3 => ?_)
      · refine WX.run (pc' := 39) (L' := [some (.int x0)]) (st' := [.int 4]) (M' := M) (P := True) 1 rfl trivial ?_
        exact WX.iret rfl rfl (h1 c1 c2 c3)
      · refine WX.run (pc' := 39) (L' := [some (.int x0)]) (st' := [.int 3]) (M' := M) (P := True) 2 rfl trivial ?_
        exact WX.iret rfl rfl (h2 c1 c2 c3)
    · refine WX.run (pc' := 23) (L' := [some (.int x0)]) (st' := [.int 57, .int x0]) (M' := M) (P := True) 2 rfl trivial ?_
      refine WX.icmp_gt (off := 5) (tgt := 28) rfl rfl (fun c4 => ?_) (fun c4 => ?_)
      · refine WX.run (pc' := 31) (L' := [some (.int x0)]) (st' := [.int 59, .int x0]) (M' := M) (P := True) 2 rfl trivial ?_
        refine WX.icmp_ne (off := 7) (tgt := 38) rfl rfl (fun c5 => ?_) (fun c5 => ?_)
        · refine WX.run (pc' := 39) (L' := [some (.int x0)]) (st' := [.int 4]) (M' := M) (P := True) 1 rfl trivial ?_
          exact WX.iret rfl rfl (h3 c1 c2 c4 c5)
        · refine WX.run (pc' := 39) (L' := [some (.int x0)]) (st' := [.int 3]) (M' := M) (P := True) 2 rfl trivial ?_
          exact WX.iret rfl rfl (h4 c1 c2 c4 c5)
      · refine WX.run (pc' := 27) (L' := [some (.int x0)]) (st' := [.int 2]) (M' := M) (P := True) 1 rfl trivial ?_
        exact WX.iret rfl rfl (h5 c1 c2 c4)
  · refine WX.run (pc' := 9) (L' := [some (.int x0)]) (st' := [.int 122, .int x0]) (M' := M) (P := True) 2 rfl trivial ?_
    refine WX.icmp_gt (off := 5) (tgt := 14) rfl rfl (fun c6 => ?_) (fun c6 => ?_)
    · refine WX.run (pc' := 17) (L' := [some (.int x0)]) (st' := [.int 48, .int x0]) (M' := M) (P := True) 2 rfl trivial ?_
      refine WX.icmp_lt (off := 11) (tgt := 28) rfl rfl (fun c7 => ?_) (fun c7 => ?_)
      · refine WX.run (pc' := 31) (L' := [some (.int x0)]) (st' := [.int 59, .int x0]) (M' := M) (P := True) 2 rfl trivial ?_
        refine WX.icmp_ne (off := 7) (tgt := 38) rfl rfl (fun c8 => ?_) (fun c8 => ?_)
        · refine WX.run (pc' := 39) (L' := [some (.int x0)]) (st' := [.int 4]) (M' := M) (P := True) 1 rfl trivial ?_
          exact WX.iret rfl rfl (h6 c1 c6 c7 c8)
        · refine WX.run (pc' := 39) (L' := [some (.int x0)]) (st' := [.int 3]) (M' := M) (P := True) 2 rfl trivial ?_
          exact WX.iret rfl rfl (h7 c1 c6 c7 c8)
      · refine WX.run (pc' := 23) (L' := [some (.int x0)]) (st' := [.int 57, .int x0]) (M' := M) (P := True) 2 rfl trivial ?_
        refine WX.icmp_gt (off := 5) (tgt := 28) rfl rfl (fun c9 => ?_) (fun c9 => ?_)
        · refine WX.run (pc' := 31) (L' := [some (.int x0)]) (st' := [.int 59, .int x0]) (M' := M) (P := True) 2 rfl trivial ?_
          refine WX.icmp_ne (off := 7) (tgt := 38) rfl rfl (fun c10 => ?_) (fun c10 => ?_)
          · refine WX.run (pc' := 39) (L' := [some (.int x0)]) (st' := [.int 4]) (M' := M) (P := True) 1 rfl trivial ?_
            exact WX.iret rfl rfl (h8 c1 c6 c7 c9 c10)
          · refine WX.run (pc' := 39) (L' := [some (.int x0)]) (st' := [.int 3]) (M' := M) (P := True) 2 rfl trivial ?_
            exact WX.iret rfl rfl (h9 c1 c6 c7 c9 c10)
        · refine WX.run (pc' := 27) (L' := [some (.int x0)]) (st' := [.int 2]) (M' := M) (P := True) 1 rfl trivial ?_
          exact WX.iret rfl rfl (h10 c1 c6 c7 c9)
    · refine WX.run (pc' := 13) (L' := [some (.int x0)]) (st' := [.int 1]) (M' := M) (P := True) 1 rfl trivial ?_
      exact WX.iret rfl rfl (h11 c1 c6)
def z_R_sortOf (x0 : Int32) : Int32 := (if x0 < 97 then (if x0 < 48 then (if x0 = 59 then 3 else 4) else (if 57 < x0 then (if x0 = 59 then 3 else 4) else 2)) else (if 122 < x0 then (if x0 < 48 then (if x0 = 59 then 3 else 4) else (if 57 < x0 then (if x0 = 59 then 3 else 4) else 2)) else 1))
theorem wx_R_sortOf {Q : Option Value → Mem → Prop} (M : Mem) (x0 : Int32)
    (h : Q (some (.int (z_R_sortOf x0))) M) :
    WX mi_R_sortOf 1 Q 0 [some (.int x0)] [] M := by
  refine sg_R_sortOf_0 M x0
    (fun c1 c2 c3 => by
      unfold z_R_sortOf at h
      rw [if_pos c1, if_pos c2, if_neg c3] at h
      exact h)
    (fun c1 c2 c3 => by
      unfold z_R_sortOf at h
      rw [if_pos c1, if_pos c2, if_pos c3] at h
      exact h)
    (fun c1 c2 c3 c4 => by
      unfold z_R_sortOf at h
      rw [if_pos c1, if_neg c2, if_pos c3, if_neg c4] at h
      exact h)
    (fun c1 c2 c3 c4 => by
      unfold z_R_sortOf at h
      rw [if_pos c1, if_neg c2, if_pos c3, if_pos c4] at h
      exact h)
    (fun c1 c2 c3 => by
      unfold z_R_sortOf at h
      rw [if_pos c1, if_neg c2, if_neg c3] at h
      exact h)
    (fun c1 c2 c3 c4 => by
      unfold z_R_sortOf at h
      rw [if_neg c1, if_pos c2, if_pos c3, if_neg c4] at h
      exact h)
    (fun c1 c2 c3 c4 => by
      unfold z_R_sortOf at h
      rw [if_neg c1, if_pos c2, if_pos c3, if_pos c4] at h
      exact h)
    (fun c1 c2 c3 c4 c5 => by
      unfold z_R_sortOf at h
      rw [if_neg c1, if_pos c2, if_neg c3, if_pos c4, if_neg c5] at h
      exact h)
    (fun c1 c2 c3 c4 c5 => by
      unfold z_R_sortOf at h
      rw [if_neg c1, if_pos c2, if_neg c3, if_pos c4, if_pos c5] at h
      exact h)
    (fun c1 c2 c3 c4 => by
      unfold z_R_sortOf at h
      rw [if_neg c1, if_pos c2, if_neg c3, if_neg c4] at h
      exact h)
    (fun c1 c2 => by
      unfold z_R_sortOf at h
      rw [if_neg c1, if_neg c2] at h
      exact h)
theorem sg_R_take_1_0 {Q : Option Value → Mem → Prop} (M : Mem) (x1 : Int32)
    (b1 : (M.1 1 1) < 150 → vp_in (M.1 1 1) 150)
    (h2 : (M.1 1 1) < 150 → Q (some (.int 1)) (wr (wr M 2 (M.1 1 1).toNatClampNeg x1) 1 1 ((M.1 1 1) + 1)))
    (h3 : ¬ (M.1 1 1) < 150 → Q (some (.int 0)) M) :
    WX mi_R_take 1 Q 0 [some (.ref 1), some (.int x1)] [] M := by
  refine WX.run (pc' := 7) (L' := [some (.ref 1), some (.int x1)]) (st' := [.int 150, .int (M.1 1 1)]) (M' := M) (P := True) 3 rfl trivial ?_
  refine WX.icmp_lt (off := 5) (tgt := 12) rfl rfl (fun c1 => ?_) (fun c1 => ?_)
  · refine WX.run (pc' := 33) (L' := [some (.ref 1), some (.int x1)]) (st' := [.int 1]) (M' := (wr (wr M 2 (M.1 1 1).toNatClampNeg x1) 1 1 ((M.1 1 1) + 1))) (P := (True ∧ vp_in (M.1 1 1) 150)) 13 rfl ⟨trivial, (b1 c1)⟩ ?_
    exact WX.zret rfl rfl (Or.inr rfl) (h2 c1)
  · refine WX.run (pc' := 11) (L' := [some (.ref 1), some (.int x1)]) (st' := [.int 0]) (M' := M) (P := True) 1 rfl trivial ?_
    exact WX.zret rfl rfl (Or.inl rfl) (h3 c1)
theorem sg_R_readToken_1_0 {Q : Option Value → Mem → Prop} (M : Mem)
    (b1 : (M.1 1 1) ≤ (M.1 1 3) → (M.1 1 3) < (M.1 1 1) → vp_in (M.1 1 3) 150)
    (h2 : (M.1 1 1) ≤ (M.1 1 3) → (M.1 1 3) < (M.1 1 1) → (z_R_sortOf (M.1 2 (M.1 1 3).toNatClampNeg)) = 1 → WX mi_R_readToken 2 Q 116 [some (.ref 1), some (.int (M.1 1 1)), some (.int 0), none] [] (wr (wr (wr M 1 4 (M.1 1 3)) 1 6 (-1)) 1 5 (z_R_sortOf (M.1 2 (M.1 1 3).toNatClampNeg))))
    (h3 : (M.1 1 1) ≤ (M.1 1 3) → (M.1 1 3) < (M.1 1 1) → ¬ (z_R_sortOf (M.1 2 (M.1 1 3).toNatClampNeg)) = 1 → ¬ (z_R_sortOf (M.1 2 (M.1 1 3).toNatClampNeg)) = 2 → WX mi_R_readToken 2 Q 116 [some (.ref 1), some (.int ((M.1 1 3) + 1)), some (.int 0), none] [] (wr (wr (wr M 1 4 (M.1 1 3)) 1 6 (-1)) 1 5 (z_R_sortOf (M.1 2 (M.1 1 3).toNatClampNeg))))
    (h4 : (M.1 1 1) ≤ (M.1 1 3) → (M.1 1 3) < (M.1 1 1) → ¬ (z_R_sortOf (M.1 2 (M.1 1 3).toNatClampNeg)) = 1 → (z_R_sortOf (M.1 2 (M.1 1 3).toNatClampNeg)) = 2 → WX mi_R_readToken 2 Q 116 [some (.ref 1), some (.int (M.1 1 1)), some (.int 0), none] [] (wr (wr (wr M 1 4 (M.1 1 3)) 1 6 (-1)) 1 5 (z_R_sortOf (M.1 2 (M.1 1 3).toNatClampNeg))))
    (h5 : (M.1 1 1) ≤ (M.1 1 3) → ¬ (M.1 1 3) < (M.1 1 1) → Q none (wr (wr (wr M 1 4 (M.1 1 3)) 1 6 (-1)) 1 5 0))
    (b6 : ¬ (M.1 1 1) ≤ (M.1 1 3) → vp_in (M.1 1 3) 150)
    (b7 : ¬ (M.1 1 1) ≤ (M.1 1 3) → ¬ (M.1 2 (M.1 1 3).toNatClampNeg) = 32 → (M.1 1 3) < (M.1 1 1) → vp_in (M.1 1 3) 150)
    (h8 : ¬ (M.1 1 1) ≤ (M.1 1 3) → ¬ (M.1 2 (M.1 1 3).toNatClampNeg) = 32 → (M.1 1 3) < (M.1 1 1) → (z_R_sortOf (M.1 2 (M.1 1 3).toNatClampNeg)) = 1 → WX mi_R_readToken 2 Q 116 [some (.ref 1), some (.int (M.1 1 1)), some (.int 0), none] [] (wr (wr (wr M 1 4 (M.1 1 3)) 1 6 (-1)) 1 5 (z_R_sortOf (M.1 2 (M.1 1 3).toNatClampNeg))))
    (h9 : ¬ (M.1 1 1) ≤ (M.1 1 3) → ¬ (M.1 2 (M.1 1 3).toNatClampNeg) = 32 → (M.1 1 3) < (M.1 1 1) → ¬ (z_R_sortOf (M.1 2 (M.1 1 3).toNatClampNeg)) = 1 → ¬ (z_R_sortOf (M.1 2 (M.1 1 3).toNatClampNeg)) = 2 → WX mi_R_readToken 2 Q 116 [some (.ref 1), some (.int ((M.1 1 3) + 1)), some (.int 0), none] [] (wr (wr (wr M 1 4 (M.1 1 3)) 1 6 (-1)) 1 5 (z_R_sortOf (M.1 2 (M.1 1 3).toNatClampNeg))))
    (h10 : ¬ (M.1 1 1) ≤ (M.1 1 3) → ¬ (M.1 2 (M.1 1 3).toNatClampNeg) = 32 → (M.1 1 3) < (M.1 1 1) → ¬ (z_R_sortOf (M.1 2 (M.1 1 3).toNatClampNeg)) = 1 → (z_R_sortOf (M.1 2 (M.1 1 3).toNatClampNeg)) = 2 → WX mi_R_readToken 2 Q 116 [some (.ref 1), some (.int (M.1 1 1)), some (.int 0), none] [] (wr (wr (wr M 1 4 (M.1 1 3)) 1 6 (-1)) 1 5 (z_R_sortOf (M.1 2 (M.1 1 3).toNatClampNeg))))
    (h11 : ¬ (M.1 1 1) ≤ (M.1 1 3) → ¬ (M.1 2 (M.1 1 3).toNatClampNeg) = 32 → ¬ (M.1 1 3) < (M.1 1 1) → Q none (wr (wr (wr M 1 4 (M.1 1 3)) 1 6 (-1)) 1 5 0))
    (h12 : ¬ (M.1 1 1) ≤ (M.1 1 3) → (M.1 2 (M.1 1 3).toNatClampNeg) = 32 → WX mi_R_readToken 2 Q 0 [some (.ref 1), none, none, none] [] (wr M 1 3 ((M.1 1 3) + 1))) :
    WX mi_R_readToken 2 Q 0 [some (.ref 1), none, none, none] [] M := by
  refine WX.run (pc' := 8) (L' := [some (.ref 1), none, none, none]) (st' := [.int (M.1 1 1), .int (M.1 1 3)]) (M' := M) (P := True) 4 rfl trivial ?_
  refine WX.icmp_ge (off := 30) (tgt := 38) rfl rfl (fun c1 => ?_) (fun c1 => ?_)
  · refine WX.run (pc' := 59) (L' := [some (.ref 1), none, none, none]) (st' := [.int (M.1 1 1), .int (M.1 1 3)]) (M' := (wr (wr M 1 4 (M.1 1 3)) 1 6 (-1))) (P := True) 11 rfl trivial ?_
    refine WX.icmp_lt (off := 9) (tgt := 68) rfl rfl (fun c2 => ?_) (fun c2 => ?_)
    · refine WX.run (pc' := 78) (L' := [some (.ref 1), none, none, none]) (st' := [.int (M.1 2 (M.1 1 3).toNatClampNeg), .ref 1]) (M' := (wr (wr M 1 4 (M.1 1 3)) 1 6 (-1))) (P := (True ∧ vp_in (M.1 1 3) 150)) 6 rfl ⟨trivial, (b1 c1 c2)⟩ ?_
      refine WX.callS (ca := mi_R_sortOf) (n := 1) (d' := 1) (st := [.ref 1]) (As := [.int (M.1 2 (M.1 1 3).toNatClampNeg)]) rfl lk_4_107 ck_R_sortOf cs_R_sortOf rfl (by decide) rfl (Nat.le_of_ble_eq_true rfl) (by intro w hw; simp only [List.mem_cons, List.not_mem_nil, or_false] at hw; rcases hw with rfl <;> rfl) (Nat.le_of_ble_eq_true rfl) ?_
      refine wx_R_sortOf (wr (wr M 1 4 (M.1 1 3)) 1 6 (-1)) (M.1 2 (M.1 1 3).toNatClampNeg) ?_
      show WX mi_R_readToken 2 Q 81 [some (.ref 1), none, none, none] [.int (z_R_sortOf (M.1 2 (M.1 1 3).toNatClampNeg)), .ref 1] (wr (wr M 1 4 (M.1 1 3)) 1 6 (-1))
      refine WX.run (pc' := 89) (L' := [some (.ref 1), none, none, none]) (st' := [.int 1, .int (z_R_sortOf (M.1 2 (M.1 1 3).toNatClampNeg))]) (M' := (wr (wr (wr M 1 4 (M.1 1 3)) 1 6 (-1)) 1 5 (z_R_sortOf (M.1 2 (M.1 1 3).toNatClampNeg)))) (P := True) 4 rfl trivial ?_
      refine WX.icmp_eq (off := 11) (tgt := 100) rfl rfl (fun c3 => ?_) (fun c3 => ?_)
      · refine WX.run (pc' := 116) (L' := [some (.ref 1), some (.int (M.1 1 1)), some (.int 0), none]) (st' := []) (M' := (wr (wr (wr M 1 4 (M.1 1 3)) 1 6 (-1)) 1 5 (z_R_sortOf (M.1 2 (M.1 1 3).toNatClampNeg)))) (P := True) 6 rfl trivial ?_
        exact (h2 c1 c2 c3)
      · refine WX.run (pc' := 97) (L' := [some (.ref 1), none, none, none]) (st' := [.int 2, .int (z_R_sortOf (M.1 2 (M.1 1 3).toNatClampNeg))]) (M' := (wr (wr (wr M 1 4 (M.1 1 3)) 1 6 (-1)) 1 5 (z_R_sortOf (M.1 2 (M.1 1 3).toNatClampNeg)))) (P := True) 3 rfl trivial ?_
        refine WX.icmp_ne (off := 10) (tgt := 107) rfl rfl (fun c4 => ?_) (fun c4 => ?_)
        · refine WX.run (pc' := 116) (L' := [some (.ref 1), some (.int ((M.1 1 3) + 1)), some (.int 0), none]) (st' := []) (M' := (wr (wr (wr M 1 4 (M.1 1 3)) 1 6 (-1)) 1 5 (z_R_sortOf (M.1 2 (M.1 1 3).toNatClampNeg)))) (P := True) 7 rfl trivial ?_
          exact (h3 c1 c2 c3 c4)
        · refine WX.run (pc' := 116) (L' := [some (.ref 1), some (.int (M.1 1 1)), some (.int 0), none]) (st' := []) (M' := (wr (wr (wr M 1 4 (M.1 1 3)) 1 6 (-1)) 1 5 (z_R_sortOf (M.1 2 (M.1 1 3).toNatClampNeg)))) (P := True) 6 rfl trivial ?_
          exact (h4 c1 c2 c3 c4)
    · refine WX.run (pc' := 67) (L' := [some (.ref 1), none, none, none]) (st' := []) (M' := (wr (wr (wr M 1 4 (M.1 1 3)) 1 6 (-1)) 1 5 0)) (P := True) 3 rfl trivial ?_
      exact WX.vret rfl rfl (h5 c1 c2)
  · refine WX.run (pc' := 22) (L' := [some (.ref 1), none, none, none]) (st' := [.int 32, .int (M.1 2 (M.1 1 3).toNatClampNeg)]) (M' := M) (P := (True ∧ vp_in (M.1 1 3) 150)) 6 rfl ⟨trivial, (b6 c1)⟩ ?_
    refine WX.icmp_ne (off := 16) (tgt := 38) rfl rfl (fun c5 => ?_) (fun c5 => ?_)
    · refine WX.run (pc' := 59) (L' := [some (.ref 1), none, none, none]) (st' := [.int (M.1 1 1), .int (M.1 1 3)]) (M' := (wr (wr M 1 4 (M.1 1 3)) 1 6 (-1))) (P := True) 11 rfl trivial ?_
      refine WX.icmp_lt (off := 9) (tgt := 68) rfl rfl (fun c6 => ?_) (fun c6 => ?_)
      · refine WX.run (pc' := 78) (L' := [some (.ref 1), none, none, none]) (st' := [.int (M.1 2 (M.1 1 3).toNatClampNeg), .ref 1]) (M' := (wr (wr M 1 4 (M.1 1 3)) 1 6 (-1))) (P := (True ∧ vp_in (M.1 1 3) 150)) 6 rfl ⟨trivial, (b7 c1 c5 c6)⟩ ?_
        refine WX.callS (ca := mi_R_sortOf) (n := 1) (d' := 1) (st := [.ref 1]) (As := [.int (M.1 2 (M.1 1 3).toNatClampNeg)]) rfl lk_4_107 ck_R_sortOf cs_R_sortOf rfl (by decide) rfl (Nat.le_of_ble_eq_true rfl) (by intro w hw; simp only [List.mem_cons, List.not_mem_nil, or_false] at hw; rcases hw with rfl <;> rfl) (Nat.le_of_ble_eq_true rfl) ?_
        refine wx_R_sortOf (wr (wr M 1 4 (M.1 1 3)) 1 6 (-1)) (M.1 2 (M.1 1 3).toNatClampNeg) ?_
        show WX mi_R_readToken 2 Q 81 [some (.ref 1), none, none, none] [.int (z_R_sortOf (M.1 2 (M.1 1 3).toNatClampNeg)), .ref 1] (wr (wr M 1 4 (M.1 1 3)) 1 6 (-1))
        refine WX.run (pc' := 89) (L' := [some (.ref 1), none, none, none]) (st' := [.int 1, .int (z_R_sortOf (M.1 2 (M.1 1 3).toNatClampNeg))]) (M' := (wr (wr (wr M 1 4 (M.1 1 3)) 1 6 (-1)) 1 5 (z_R_sortOf (M.1 2 (M.1 1 3).toNatClampNeg)))) (P := True) 4 rfl trivial ?_
        refine WX.icmp_eq (off := 11) (tgt := 100) rfl rfl (fun c7 => ?_) (fun c7 => ?_)
        · refine WX.run (pc' := 116) (L' := [some (.ref 1), some (.int (M.1 1 1)), some (.int 0), none]) (st' := []) (M' := (wr (wr (wr M 1 4 (M.1 1 3)) 1 6 (-1)) 1 5 (z_R_sortOf (M.1 2 (M.1 1 3).toNatClampNeg)))) (P := True) 6 rfl trivial ?_
          exact (h8 c1 c5 c6 c7)
        · refine WX.run (pc' := 97) (L' := [some (.ref 1), none, none, none]) (st' := [.int 2, .int (z_R_sortOf (M.1 2 (M.1 1 3).toNatClampNeg))]) (M' := (wr (wr (wr M 1 4 (M.1 1 3)) 1 6 (-1)) 1 5 (z_R_sortOf (M.1 2 (M.1 1 3).toNatClampNeg)))) (P := True) 3 rfl trivial ?_
          refine WX.icmp_ne (off := 10) (tgt := 107) rfl rfl (fun c8 => ?_) (fun c8 => ?_)
          · refine WX.run (pc' := 116) (L' := [some (.ref 1), some (.int ((M.1 1 3) + 1)), some (.int 0), none]) (st' := []) (M' := (wr (wr (wr M 1 4 (M.1 1 3)) 1 6 (-1)) 1 5 (z_R_sortOf (M.1 2 (M.1 1 3).toNatClampNeg)))) (P := True) 7 rfl trivial ?_
            exact (h9 c1 c5 c6 c7 c8)
          · refine WX.run (pc' := 116) (L' := [some (.ref 1), some (.int (M.1 1 1)), some (.int 0), none]) (st' := []) (M' := (wr (wr (wr M 1 4 (M.1 1 3)) 1 6 (-1)) 1 5 (z_R_sortOf (M.1 2 (M.1 1 3).toNatClampNeg)))) (P := True) 6 rfl trivial ?_
            exact (h10 c1 c5 c6 c7 c8)
      · refine WX.run (pc' := 67) (L' := [some (.ref 1), none, none, none]) (st' := []) (M' := (wr (wr (wr M 1 4 (M.1 1 3)) 1 6 (-1)) 1 5 0)) (P := True) 3 rfl trivial ?_
        exact WX.vret rfl rfl (h11 c1 c5 c6)
    · refine WX.run (pc' := 0) (L' := [some (.ref 1), none, none, none]) (st' := []) (M' := (wr M 1 3 ((M.1 1 3) + 1))) (P := True) 7 rfl trivial ?_
      exact (h12 c1 c5)
theorem sg_R_readToken_1_116 {Q : Option Value → Mem → Prop} (M : Mem) (x1 x2 : Int32)
    (h1 : x1 ≤ (M.1 1 3) → ¬ (M.1 1 5) = 1 → ¬ (M.1 1 5) = 2 → Q none M)
    (h2 : x1 ≤ (M.1 1 3) → ¬ (M.1 1 5) = 1 → (M.1 1 5) = 2 → ((M.1 1 3) - (M.1 1 4)) = 1 → Q none (wr M 1 6 x2))
    (h3 : x1 ≤ (M.1 1 3) → ¬ (M.1 1 5) = 1 → (M.1 1 5) = 2 → ¬ ((M.1 1 3) - (M.1 1 4)) = 1 → ¬ ((M.1 1 3) - (M.1 1 4)) = 2 → Q none M)
    (h4 : x1 ≤ (M.1 1 3) → ¬ (M.1 1 5) = 1 → (M.1 1 5) = 2 → ¬ ((M.1 1 3) - (M.1 1 4)) = 1 → ((M.1 1 3) - (M.1 1 4)) = 2 → x2 < 10 → Q none M)
    (h5 : x1 ≤ (M.1 1 3) → ¬ (M.1 1 5) = 1 → (M.1 1 5) = 2 → ¬ ((M.1 1 3) - (M.1 1 4)) = 1 → ((M.1 1 3) - (M.1 1 4)) = 2 → ¬ x2 < 10 → Q none (wr M 1 6 x2))
    (h6 : x1 ≤ (M.1 1 3) → (M.1 1 5) = 1 → ¬ ((M.1 1 3) - (M.1 1 4)) = 1 → ¬ (M.1 1 5) = 2 → Q none M)
    (h7 : x1 ≤ (M.1 1 3) → (M.1 1 5) = 1 → ¬ ((M.1 1 3) - (M.1 1 4)) = 1 → (M.1 1 5) = 2 → ((M.1 1 3) - (M.1 1 4)) = 1 → Q none (wr M 1 6 x2))
    (h8 : x1 ≤ (M.1 1 3) → (M.1 1 5) = 1 → ¬ ((M.1 1 3) - (M.1 1 4)) = 1 → (M.1 1 5) = 2 → ¬ ((M.1 1 3) - (M.1 1 4)) = 1 → ¬ ((M.1 1 3) - (M.1 1 4)) = 2 → Q none M)
    (h9 : x1 ≤ (M.1 1 3) → (M.1 1 5) = 1 → ¬ ((M.1 1 3) - (M.1 1 4)) = 1 → (M.1 1 5) = 2 → ¬ ((M.1 1 3) - (M.1 1 4)) = 1 → ((M.1 1 3) - (M.1 1 4)) = 2 → x2 < 10 → Q none M)
    (h10 : x1 ≤ (M.1 1 3) → (M.1 1 5) = 1 → ¬ ((M.1 1 3) - (M.1 1 4)) = 1 → (M.1 1 5) = 2 → ¬ ((M.1 1 3) - (M.1 1 4)) = 1 → ((M.1 1 3) - (M.1 1 4)) = 2 → ¬ x2 < 10 → Q none (wr M 1 6 x2))
    (b11 : x1 ≤ (M.1 1 3) → (M.1 1 5) = 1 → ((M.1 1 3) - (M.1 1 4)) = 1 → vp_in (M.1 1 4) 150)
    (h12 : x1 ≤ (M.1 1 3) → (M.1 1 5) = 1 → ((M.1 1 3) - (M.1 1 4)) = 1 → ¬ (M.1 1 5) = 2 → Q none (wr M 1 6 (M.1 2 (M.1 1 4).toNatClampNeg)))
    (h13 : x1 ≤ (M.1 1 3) → (M.1 1 5) = 1 → ((M.1 1 3) - (M.1 1 4)) = 1 → (M.1 1 5) = 2 → ((M.1 1 3) - (M.1 1 4)) = 1 → Q none (wr (wr M 1 6 (M.1 2 (M.1 1 4).toNatClampNeg)) 1 6 x2))
    (h14 : x1 ≤ (M.1 1 3) → (M.1 1 5) = 1 → ((M.1 1 3) - (M.1 1 4)) = 1 → (M.1 1 5) = 2 → ¬ ((M.1 1 3) - (M.1 1 4)) = 1 → ¬ ((M.1 1 3) - (M.1 1 4)) = 2 → Q none (wr M 1 6 (M.1 2 (M.1 1 4).toNatClampNeg)))
    (h15 : x1 ≤ (M.1 1 3) → (M.1 1 5) = 1 → ((M.1 1 3) - (M.1 1 4)) = 1 → (M.1 1 5) = 2 → ¬ ((M.1 1 3) - (M.1 1 4)) = 1 → ((M.1 1 3) - (M.1 1 4)) = 2 → x2 < 10 → Q none (wr M 1 6 (M.1 2 (M.1 1 4).toNatClampNeg)))
    (h16 : x1 ≤ (M.1 1 3) → (M.1 1 5) = 1 → ((M.1 1 3) - (M.1 1 4)) = 1 → (M.1 1 5) = 2 → ¬ ((M.1 1 3) - (M.1 1 4)) = 1 → ((M.1 1 3) - (M.1 1 4)) = 2 → ¬ x2 < 10 → Q none (wr (wr M 1 6 (M.1 2 (M.1 1 4).toNatClampNeg)) 1 6 x2))
    (b17 : ¬ x1 ≤ (M.1 1 3) → vp_in (M.1 1 3) 150)
    (h18 : ¬ x1 ≤ (M.1 1 3) → ¬ (z_R_sortOf (M.1 2 (M.1 1 3).toNatClampNeg)) = (M.1 1 5) → ¬ (M.1 1 5) = 1 → ¬ (M.1 1 5) = 2 → Q none M)
    (h19 : ¬ x1 ≤ (M.1 1 3) → ¬ (z_R_sortOf (M.1 2 (M.1 1 3).toNatClampNeg)) = (M.1 1 5) → ¬ (M.1 1 5) = 1 → (M.1 1 5) = 2 → ((M.1 1 3) - (M.1 1 4)) = 1 → Q none (wr M 1 6 x2))
    (h20 : ¬ x1 ≤ (M.1 1 3) → ¬ (z_R_sortOf (M.1 2 (M.1 1 3).toNatClampNeg)) = (M.1 1 5) → ¬ (M.1 1 5) = 1 → (M.1 1 5) = 2 → ¬ ((M.1 1 3) - (M.1 1 4)) = 1 → ¬ ((M.1 1 3) - (M.1 1 4)) = 2 → Q none M)
    (h21 : ¬ x1 ≤ (M.1 1 3) → ¬ (z_R_sortOf (M.1 2 (M.1 1 3).toNatClampNeg)) = (M.1 1 5) → ¬ (M.1 1 5) = 1 → (M.1 1 5) = 2 → ¬ ((M.1 1 3) - (M.1 1 4)) = 1 → ((M.1 1 3) - (M.1 1 4)) = 2 → x2 < 10 → Q none M)
    (h22 : ¬ x1 ≤ (M.1 1 3) → ¬ (z_R_sortOf (M.1 2 (M.1 1 3).toNatClampNeg)) = (M.1 1 5) → ¬ (M.1 1 5) = 1 → (M.1 1 5) = 2 → ¬ ((M.1 1 3) - (M.1 1 4)) = 1 → ((M.1 1 3) - (M.1 1 4)) = 2 → ¬ x2 < 10 → Q none (wr M 1 6 x2))
    (h23 : ¬ x1 ≤ (M.1 1 3) → ¬ (z_R_sortOf (M.1 2 (M.1 1 3).toNatClampNeg)) = (M.1 1 5) → (M.1 1 5) = 1 → ¬ ((M.1 1 3) - (M.1 1 4)) = 1 → ¬ (M.1 1 5) = 2 → Q none M)
    (h24 : ¬ x1 ≤ (M.1 1 3) → ¬ (z_R_sortOf (M.1 2 (M.1 1 3).toNatClampNeg)) = (M.1 1 5) → (M.1 1 5) = 1 → ¬ ((M.1 1 3) - (M.1 1 4)) = 1 → (M.1 1 5) = 2 → ((M.1 1 3) - (M.1 1 4)) = 1 → Q none (wr M 1 6 x2))
    (h25 : ¬ x1 ≤ (M.1 1 3) → ¬ (z_R_sortOf (M.1 2 (M.1 1 3).toNatClampNeg)) = (M.1 1 5) → (M.1 1 5) = 1 → ¬ ((M.1 1 3) - (M.1 1 4)) = 1 → (M.1 1 5) = 2 → ¬ ((M.1 1 3) - (M.1 1 4)) = 1 → ¬ ((M.1 1 3) - (M.1 1 4)) = 2 → Q none M)
    (h26 : ¬ x1 ≤ (M.1 1 3) → ¬ (z_R_sortOf (M.1 2 (M.1 1 3).toNatClampNeg)) = (M.1 1 5) → (M.1 1 5) = 1 → ¬ ((M.1 1 3) - (M.1 1 4)) = 1 → (M.1 1 5) = 2 → ¬ ((M.1 1 3) - (M.1 1 4)) = 1 → ((M.1 1 3) - (M.1 1 4)) = 2 → x2 < 10 → Q none M)
    (h27 : ¬ x1 ≤ (M.1 1 3) → ¬ (z_R_sortOf (M.1 2 (M.1 1 3).toNatClampNeg)) = (M.1 1 5) → (M.1 1 5) = 1 → ¬ ((M.1 1 3) - (M.1 1 4)) = 1 → (M.1 1 5) = 2 → ¬ ((M.1 1 3) - (M.1 1 4)) = 1 → ((M.1 1 3) - (M.1 1 4)) = 2 → ¬ x2 < 10 → Q none (wr M 1 6 x2))
    (b28 : ¬ x1 ≤ (M.1 1 3) → ¬ (z_R_sortOf (M.1 2 (M.1 1 3).toNatClampNeg)) = (M.1 1 5) → (M.1 1 5) = 1 → ((M.1 1 3) - (M.1 1 4)) = 1 → vp_in (M.1 1 4) 150)
    (h29 : ¬ x1 ≤ (M.1 1 3) → ¬ (z_R_sortOf (M.1 2 (M.1 1 3).toNatClampNeg)) = (M.1 1 5) → (M.1 1 5) = 1 → ((M.1 1 3) - (M.1 1 4)) = 1 → ¬ (M.1 1 5) = 2 → Q none (wr M 1 6 (M.1 2 (M.1 1 4).toNatClampNeg)))
    (h30 : ¬ x1 ≤ (M.1 1 3) → ¬ (z_R_sortOf (M.1 2 (M.1 1 3).toNatClampNeg)) = (M.1 1 5) → (M.1 1 5) = 1 → ((M.1 1 3) - (M.1 1 4)) = 1 → (M.1 1 5) = 2 → ((M.1 1 3) - (M.1 1 4)) = 1 → Q none (wr (wr M 1 6 (M.1 2 (M.1 1 4).toNatClampNeg)) 1 6 x2))
    (h31 : ¬ x1 ≤ (M.1 1 3) → ¬ (z_R_sortOf (M.1 2 (M.1 1 3).toNatClampNeg)) = (M.1 1 5) → (M.1 1 5) = 1 → ((M.1 1 3) - (M.1 1 4)) = 1 → (M.1 1 5) = 2 → ¬ ((M.1 1 3) - (M.1 1 4)) = 1 → ¬ ((M.1 1 3) - (M.1 1 4)) = 2 → Q none (wr M 1 6 (M.1 2 (M.1 1 4).toNatClampNeg)))
    (h32 : ¬ x1 ≤ (M.1 1 3) → ¬ (z_R_sortOf (M.1 2 (M.1 1 3).toNatClampNeg)) = (M.1 1 5) → (M.1 1 5) = 1 → ((M.1 1 3) - (M.1 1 4)) = 1 → (M.1 1 5) = 2 → ¬ ((M.1 1 3) - (M.1 1 4)) = 1 → ((M.1 1 3) - (M.1 1 4)) = 2 → x2 < 10 → Q none (wr M 1 6 (M.1 2 (M.1 1 4).toNatClampNeg)))
    (h33 : ¬ x1 ≤ (M.1 1 3) → ¬ (z_R_sortOf (M.1 2 (M.1 1 3).toNatClampNeg)) = (M.1 1 5) → (M.1 1 5) = 1 → ((M.1 1 3) - (M.1 1 4)) = 1 → (M.1 1 5) = 2 → ¬ ((M.1 1 3) - (M.1 1 4)) = 1 → ((M.1 1 3) - (M.1 1 4)) = 2 → ¬ x2 < 10 → Q none (wr (wr M 1 6 (M.1 2 (M.1 1 4).toNatClampNeg)) 1 6 x2))
    (b34 : ¬ x1 ≤ (M.1 1 3) → (z_R_sortOf (M.1 2 (M.1 1 3).toNatClampNeg)) = (M.1 1 5) → vp_in (M.1 1 3) 150)
    (h35 : ¬ x1 ≤ (M.1 1 3) → (z_R_sortOf (M.1 2 (M.1 1 3).toNatClampNeg)) = (M.1 1 5) → WX mi_R_readToken 2 Q 116 [some (.ref 1), some (.int x1), some (.int (((x2 * 10) + (M.1 2 (M.1 1 3).toNatClampNeg)) - 48)), none] [] (wr M 1 3 ((M.1 1 3) + 1))) :
    WX mi_R_readToken 2 Q 116 [some (.ref 1), some (.int x1), some (.int x2), none] [] M := by
  refine WX.run (pc' := 121) (L' := [some (.ref 1), some (.int x1), some (.int x2), none]) (st' := [.int x1, .int (M.1 1 3)]) (M' := M) (P := True) 3 rfl trivial ?_
  refine WX.icmp_ge (off := 53) (tgt := 174) rfl rfl (fun c1 => ?_) (fun c1 => ?_)
  · refine WX.run (pc' := 189) (L' := [some (.ref 1), some (.int x1), some (.int x2), some (.int ((M.1 1 3) - (M.1 1 4)))]) (st' := [.int 1, .int (M.1 1 5)]) (M' := M) (P := True) 9 rfl trivial ?_
    refine WX.icmp_ne (off := 21) (tgt := 210) rfl rfl (fun c2 => ?_) (fun c2 => ?_)
    · refine WX.run (pc' := 215) (L' := [some (.ref 1), some (.int x1), some (.int x2), some (.int ((M.1 1 3) - (M.1 1 4)))]) (st' := [.int 2, .int (M.1 1 5)]) (M' := M) (P := True) 3 rfl trivial ?_
      refine WX.icmp_ne (off := 24) (tgt := 239) rfl rfl (fun c3 => ?_) (fun c3 => ?_)
      · exact WX.vret rfl rfl (h1 c1 c2 c3)
      · refine WX.run (pc' := 220) (L' := [some (.ref 1), some (.int x1), some (.int x2), some (.int ((M.1 1 3) - (M.1 1 4)))]) (st' := [.int 1, .int ((M.1 1 3) - (M.1 1 4))]) (M' := M) (P := True) 2 rfl trivial ?_
        refine WX.icmp_eq (off := 14) (tgt := 234) rfl rfl (fun c4 => ?_) (fun c4 => ?_)
        · refine WX.run (pc' := 239) (L' := [some (.ref 1), some (.int x1), some (.int x2), some (.int ((M.1 1 3) - (M.1 1 4)))]) (st' := []) (M' := (wr M 1 6 x2)) (P := True) 3 rfl trivial ?_
          exact WX.vret rfl rfl (h2 c1 c2 c3 c4)
        · refine WX.run (pc' := 225) (L' := [some (.ref 1), some (.int x1), some (.int x2), some (.int ((M.1 1 3) - (M.1 1 4)))]) (st' := [.int 2, .int ((M.1 1 3) - (M.1 1 4))]) (M' := M) (P := True) 2 rfl trivial ?_
          refine WX.icmp_ne (off := 14) (tgt := 239) rfl rfl (fun c5 => ?_) (fun c5 => ?_)
          · exact WX.vret rfl rfl (h3 c1 c2 c3 c4 c5)
          · refine WX.run (pc' := 231) (L' := [some (.ref 1), some (.int x1), some (.int x2), some (.int ((M.1 1 3) - (M.1 1 4)))]) (st' := [.int 10, .int x2]) (M' := M) (P := True) 2 rfl trivial ?_
            refine WX.icmp_lt (off := 8) (tgt := 239) rfl rfl (fun c6 => ?_) (fun c6 => ?_)
            · exact WX.vret rfl rfl (h4 c1 c2 c3 c4 c5 c6)
            · refine WX.run (pc' := 239) (L' := [some (.ref 1), some (.int x1), some (.int x2), some (.int ((M.1 1 3) - (M.1 1 4)))]) (st' := []) (M' := (wr M 1 6 x2)) (P := True) 3 rfl trivial ?_
              exact WX.vret rfl rfl (h5 c1 c2 c3 c4 c5 c6)
    · refine WX.run (pc' := 194) (L' := [some (.ref 1), some (.int x1), some (.int x2), some (.int ((M.1 1 3) - (M.1 1 4)))]) (st' := [.int 1, .int ((M.1 1 3) - (M.1 1 4))]) (M' := M) (P := True) 2 rfl trivial ?_
      refine WX.icmp_ne (off := 16) (tgt := 210) rfl rfl (fun c7 => ?_) (fun c7 => ?_)
      · refine WX.run (pc' := 215) (L' := [some (.ref 1), some (.int x1), some (.int x2), some (.int ((M.1 1 3) - (M.1 1 4)))]) (st' := [.int 2, .int (M.1 1 5)]) (M' := M) (P := True) 3 rfl trivial ?_
        refine WX.icmp_ne (off := 24) (tgt := 239) rfl rfl (fun c8 => ?_) (fun c8 => ?_)
        · exact WX.vret rfl rfl (h6 c1 c2 c7 c8)
        · refine WX.run (pc' := 220) (L' := [some (.ref 1), some (.int x1), some (.int x2), some (.int ((M.1 1 3) - (M.1 1 4)))]) (st' := [.int 1, .int ((M.1 1 3) - (M.1 1 4))]) (M' := M) (P := True) 2 rfl trivial ?_
          refine WX.icmp_eq (off := 14) (tgt := 234) rfl rfl (fun c9 => ?_) (fun c9 => ?_)
          · refine WX.run (pc' := 239) (L' := [some (.ref 1), some (.int x1), some (.int x2), some (.int ((M.1 1 3) - (M.1 1 4)))]) (st' := []) (M' := (wr M 1 6 x2)) (P := True) 3 rfl trivial ?_
            exact WX.vret rfl rfl (h7 c1 c2 c7 c8 c9)
          · refine WX.run (pc' := 225) (L' := [some (.ref 1), some (.int x1), some (.int x2), some (.int ((M.1 1 3) - (M.1 1 4)))]) (st' := [.int 2, .int ((M.1 1 3) - (M.1 1 4))]) (M' := M) (P := True) 2 rfl trivial ?_
            refine WX.icmp_ne (off := 14) (tgt := 239) rfl rfl (fun c10 => ?_) (fun c10 => ?_)
            · exact WX.vret rfl rfl (h8 c1 c2 c7 c8 c9 c10)
            · refine WX.run (pc' := 231) (L' := [some (.ref 1), some (.int x1), some (.int x2), some (.int ((M.1 1 3) - (M.1 1 4)))]) (st' := [.int 10, .int x2]) (M' := M) (P := True) 2 rfl trivial ?_
              refine WX.icmp_lt (off := 8) (tgt := 239) rfl rfl (fun c11 => ?_) (fun c11 => ?_)
              · exact WX.vret rfl rfl (h9 c1 c2 c7 c8 c9 c10 c11)
              · refine WX.run (pc' := 239) (L' := [some (.ref 1), some (.int x1), some (.int x2), some (.int ((M.1 1 3) - (M.1 1 4)))]) (st' := []) (M' := (wr M 1 6 x2)) (P := True) 3 rfl trivial ?_
                exact WX.vret rfl rfl (h10 c1 c2 c7 c8 c9 c10 c11)
      · refine WX.run (pc' := 215) (L' := [some (.ref 1), some (.int x1), some (.int x2), some (.int ((M.1 1 3) - (M.1 1 4)))]) (st' := [.int 2, .int (M.1 1 5)]) (M' := (wr M 1 6 (M.1 2 (M.1 1 4).toNatClampNeg))) (P := (True ∧ vp_in (M.1 1 4) 150)) 10 rfl ⟨trivial, (b11 c1 c2 c7)⟩ ?_
        refine WX.icmp_ne (off := 24) (tgt := 239) rfl rfl (fun c12 => ?_) (fun c12 => ?_)
        · exact WX.vret rfl rfl (h12 c1 c2 c7 c12)
        · refine WX.run (pc' := 220) (L' := [some (.ref 1), some (.int x1), some (.int x2), some (.int ((M.1 1 3) - (M.1 1 4)))]) (st' := [.int 1, .int ((M.1 1 3) - (M.1 1 4))]) (M' := (wr M 1 6 (M.1 2 (M.1 1 4).toNatClampNeg))) (P := True) 2 rfl trivial ?_
          refine WX.icmp_eq (off := 14) (tgt := 234) rfl rfl (fun c13 => ?_) (fun c13 => ?_)
          · refine WX.run (pc' := 239) (L' := [some (.ref 1), some (.int x1), some (.int x2), some (.int ((M.1 1 3) - (M.1 1 4)))]) (st' := []) (M' := (wr (wr M 1 6 (M.1 2 (M.1 1 4).toNatClampNeg)) 1 6 x2)) (P := True) 3 rfl trivial ?_
            exact WX.vret rfl rfl (h13 c1 c2 c7 c12 c13)
          · refine WX.run (pc' := 225) (L' := [some (.ref 1), some (.int x1), some (.int x2), some (.int ((M.1 1 3) - (M.1 1 4)))]) (st' := [.int 2, .int ((M.1 1 3) - (M.1 1 4))]) (M' := (wr M 1 6 (M.1 2 (M.1 1 4).toNatClampNeg))) (P := True) 2 rfl trivial ?_
            refine WX.icmp_ne (off := 14) (tgt := 239) rfl rfl (fun c14 => ?_) (fun c14 => ?_)
            · exact WX.vret rfl rfl (h14 c1 c2 c7 c12 c13 c14)
            · refine WX.run (pc' := 231) (L' := [some (.ref 1), some (.int x1), some (.int x2), some (.int ((M.1 1 3) - (M.1 1 4)))]) (st' := [.int 10, .int x2]) (M' := (wr M 1 6 (M.1 2 (M.1 1 4).toNatClampNeg))) (P := True) 2 rfl trivial ?_
              refine WX.icmp_lt (off := 8) (tgt := 239) rfl rfl (fun c15 => ?_) (fun c15 => ?_)
              · exact WX.vret rfl rfl (h15 c1 c2 c7 c12 c13 c14 c15)
              · refine WX.run (pc' := 239) (L' := [some (.ref 1), some (.int x1), some (.int x2), some (.int ((M.1 1 3) - (M.1 1 4)))]) (st' := []) (M' := (wr (wr M 1 6 (M.1 2 (M.1 1 4).toNatClampNeg)) 1 6 x2)) (P := True) 3 rfl trivial ?_
                exact WX.vret rfl rfl (h16 c1 c2 c7 c12 c13 c14 c15)
  · refine WX.run (pc' := 133) (L' := [some (.ref 1), some (.int x1), some (.int x2), none]) (st' := [.int (M.1 2 (M.1 1 3).toNatClampNeg)]) (M' := M) (P := (True ∧ vp_in (M.1 1 3) 150)) 5 rfl ⟨trivial, (b17 c1)⟩ ?_
    refine WX.callS (ca := mi_R_sortOf) (n := 1) (d' := 1) (st := []) (As := [.int (M.1 2 (M.1 1 3).toNatClampNeg)]) rfl lk_4_107 ck_R_sortOf cs_R_sortOf rfl (by decide) rfl (Nat.le_of_ble_eq_true rfl) (by intro w hw; simp only [List.mem_cons, List.not_mem_nil, or_false] at hw; rcases hw with rfl <;> rfl) (Nat.le_of_ble_eq_true rfl) ?_
    refine wx_R_sortOf M (M.1 2 (M.1 1 3).toNatClampNeg) ?_
    show WX mi_R_readToken 2 Q 136 [some (.ref 1), some (.int x1), some (.int x2), none] [.int (z_R_sortOf (M.1 2 (M.1 1 3).toNatClampNeg))] M
    refine WX.run (pc' := 140) (L' := [some (.ref 1), some (.int x1), some (.int x2), none]) (st' := [.int (M.1 1 5), .int (z_R_sortOf (M.1 2 (M.1 1 3).toNatClampNeg))]) (M' := M) (P := True) 2 rfl trivial ?_
    refine WX.icmp_ne (off := 34) (tgt := 174) rfl rfl (fun c16 => ?_) (fun c16 => ?_)
    · refine WX.run (pc' := 189) (L' := [some (.ref 1), some (.int x1), some (.int x2), some (.int ((M.1 1 3) - (M.1 1 4)))]) (st' := [.int 1, .int (M.1 1 5)]) (M' := M) (P := True) 9 rfl trivial ?_
      refine WX.icmp_ne (off := 21) (tgt := 210) rfl rfl (fun c17 => ?_) (fun c17 => ?_)
      · refine WX.run (pc' := 215) (L' := [some (.ref 1), some (.int x1), some (.int x2), some (.int ((M.1 1 3) - (M.1 1 4)))]) (st' := [.int 2, .int (M.1 1 5)]) (M' := M) (P := True) 3 rfl trivial ?_
        refine WX.icmp_ne (off := 24) (tgt := 239) rfl rfl (fun c18 => ?_) (fun c18 => ?_)
        · exact WX.vret rfl rfl (h18 c1 c16 c17 c18)
        · refine WX.run (pc' := 220) (L' := [some (.ref 1), some (.int x1), some (.int x2), some (.int ((M.1 1 3) - (M.1 1 4)))]) (st' := [.int 1, .int ((M.1 1 3) - (M.1 1 4))]) (M' := M) (P := True) 2 rfl trivial ?_
          refine WX.icmp_eq (off := 14) (tgt := 234) rfl rfl (fun c19 => ?_) (fun c19 => ?_)
          · refine WX.run (pc' := 239) (L' := [some (.ref 1), some (.int x1), some (.int x2), some (.int ((M.1 1 3) - (M.1 1 4)))]) (st' := []) (M' := (wr M 1 6 x2)) (P := True) 3 rfl trivial ?_
            exact WX.vret rfl rfl (h19 c1 c16 c17 c18 c19)
          · refine WX.run (pc' := 225) (L' := [some (.ref 1), some (.int x1), some (.int x2), some (.int ((M.1 1 3) - (M.1 1 4)))]) (st' := [.int 2, .int ((M.1 1 3) - (M.1 1 4))]) (M' := M) (P := True) 2 rfl trivial ?_
            refine WX.icmp_ne (off := 14) (tgt := 239) rfl rfl (fun c20 => ?_) (fun c20 => ?_)
            · exact WX.vret rfl rfl (h20 c1 c16 c17 c18 c19 c20)
            · refine WX.run (pc' := 231) (L' := [some (.ref 1), some (.int x1), some (.int x2), some (.int ((M.1 1 3) - (M.1 1 4)))]) (st' := [.int 10, .int x2]) (M' := M) (P := True) 2 rfl trivial ?_
              refine WX.icmp_lt (off := 8) (tgt := 239) rfl rfl (fun c21 => ?_) (fun c21 => ?_)
              · exact WX.vret rfl rfl (h21 c1 c16 c17 c18 c19 c20 c21)
              · refine WX.run (pc' := 239) (L' := [some (.ref 1), some (.int x1), some (.int x2), some (.int ((M.1 1 3) - (M.1 1 4)))]) (st' := []) (M' := (wr M 1 6 x2)) (P := True) 3 rfl trivial ?_
                exact WX.vret rfl rfl (h22 c1 c16 c17 c18 c19 c20 c21)
      · refine WX.run (pc' := 194) (L' := [some (.ref 1), some (.int x1), some (.int x2), some (.int ((M.1 1 3) - (M.1 1 4)))]) (st' := [.int 1, .int ((M.1 1 3) - (M.1 1 4))]) (M' := M) (P := True) 2 rfl trivial ?_
        refine WX.icmp_ne (off := 16) (tgt := 210) rfl rfl (fun c22 => ?_) (fun c22 => ?_)
        · refine WX.run (pc' := 215) (L' := [some (.ref 1), some (.int x1), some (.int x2), some (.int ((M.1 1 3) - (M.1 1 4)))]) (st' := [.int 2, .int (M.1 1 5)]) (M' := M) (P := True) 3 rfl trivial ?_
          refine WX.icmp_ne (off := 24) (tgt := 239) rfl rfl (fun c23 => ?_) (fun c23 => ?_)
          · exact WX.vret rfl rfl (h23 c1 c16 c17 c22 c23)
          · refine WX.run (pc' := 220) (L' := [some (.ref 1), some (.int x1), some (.int x2), some (.int ((M.1 1 3) - (M.1 1 4)))]) (st' := [.int 1, .int ((M.1 1 3) - (M.1 1 4))]) (M' := M) (P := True) 2 rfl trivial ?_
            refine WX.icmp_eq (off := 14) (tgt := 234) rfl rfl (fun c24 => ?_) (fun c24 => ?_)
            · refine WX.run (pc' := 239) (L' := [some (.ref 1), some (.int x1), some (.int x2), some (.int ((M.1 1 3) - (M.1 1 4)))]) (st' := []) (M' := (wr M 1 6 x2)) (P := True) 3 rfl trivial ?_
              exact WX.vret rfl rfl (h24 c1 c16 c17 c22 c23 c24)
            · refine WX.run (pc' := 225) (L' := [some (.ref 1), some (.int x1), some (.int x2), some (.int ((M.1 1 3) - (M.1 1 4)))]) (st' := [.int 2, .int ((M.1 1 3) - (M.1 1 4))]) (M' := M) (P := True) 2 rfl trivial ?_
              refine WX.icmp_ne (off := 14) (tgt := 239) rfl rfl (fun c25 => ?_) (fun c25 => ?_)
              · exact WX.vret rfl rfl (h25 c1 c16 c17 c22 c23 c24 c25)
              · refine WX.run (pc' := 231) (L' := [some (.ref 1), some (.int x1), some (.int x2), some (.int ((M.1 1 3) - (M.1 1 4)))]) (st' := [.int 10, .int x2]) (M' := M) (P := True) 2 rfl trivial ?_
                refine WX.icmp_lt (off := 8) (tgt := 239) rfl rfl (fun c26 => ?_) (fun c26 => ?_)
                · exact WX.vret rfl rfl (h26 c1 c16 c17 c22 c23 c24 c25 c26)
                · refine WX.run (pc' := 239) (L' := [some (.ref 1), some (.int x1), some (.int x2), some (.int ((M.1 1 3) - (M.1 1 4)))]) (st' := []) (M' := (wr M 1 6 x2)) (P := True) 3 rfl trivial ?_
                  exact WX.vret rfl rfl (h27 c1 c16 c17 c22 c23 c24 c25 c26)
        · refine WX.run (pc' := 215) (L' := [some (.ref 1), some (.int x1), some (.int x2), some (.int ((M.1 1 3) - (M.1 1 4)))]) (st' := [.int 2, .int (M.1 1 5)]) (M' := (wr M 1 6 (M.1 2 (M.1 1 4).toNatClampNeg))) (P := (True ∧ vp_in (M.1 1 4) 150)) 10 rfl ⟨trivial, (b28 c1 c16 c17 c22)⟩ ?_
          refine WX.icmp_ne (off := 24) (tgt := 239) rfl rfl (fun c27 => ?_) (fun c27 => ?_)
          · exact WX.vret rfl rfl (h29 c1 c16 c17 c22 c27)
          · refine WX.run (pc' := 220) (L' := [some (.ref 1), some (.int x1), some (.int x2), some (.int ((M.1 1 3) - (M.1 1 4)))]) (st' := [.int 1, .int ((M.1 1 3) - (M.1 1 4))]) (M' := (wr M 1 6 (M.1 2 (M.1 1 4).toNatClampNeg))) (P := True) 2 rfl trivial ?_
            refine WX.icmp_eq (off := 14) (tgt := 234) rfl rfl (fun c28 => ?_) (fun c28 => ?_)
            · refine WX.run (pc' := 239) (L' := [some (.ref 1), some (.int x1), some (.int x2), some (.int ((M.1 1 3) - (M.1 1 4)))]) (st' := []) (M' := (wr (wr M 1 6 (M.1 2 (M.1 1 4).toNatClampNeg)) 1 6 x2)) (P := True) 3 rfl trivial ?_
              exact WX.vret rfl rfl (h30 c1 c16 c17 c22 c27 c28)
            · refine WX.run (pc' := 225) (L' := [some (.ref 1), some (.int x1), some (.int x2), some (.int ((M.1 1 3) - (M.1 1 4)))]) (st' := [.int 2, .int ((M.1 1 3) - (M.1 1 4))]) (M' := (wr M 1 6 (M.1 2 (M.1 1 4).toNatClampNeg))) (P := True) 2 rfl trivial ?_
              refine WX.icmp_ne (off := 14) (tgt := 239) rfl rfl (fun c29 => ?_) (fun c29 => ?_)
              · exact WX.vret rfl rfl (h31 c1 c16 c17 c22 c27 c28 c29)
              · refine WX.run (pc' := 231) (L' := [some (.ref 1), some (.int x1), some (.int x2), some (.int ((M.1 1 3) - (M.1 1 4)))]) (st' := [.int 10, .int x2]) (M' := (wr M 1 6 (M.1 2 (M.1 1 4).toNatClampNeg))) (P := True) 2 rfl trivial ?_
                refine WX.icmp_lt (off := 8) (tgt := 239) rfl rfl (fun c30 => ?_) (fun c30 => ?_)
                · exact WX.vret rfl rfl (h32 c1 c16 c17 c22 c27 c28 c29 c30)
                · refine WX.run (pc' := 239) (L' := [some (.ref 1), some (.int x1), some (.int x2), some (.int ((M.1 1 3) - (M.1 1 4)))]) (st' := []) (M' := (wr (wr M 1 6 (M.1 2 (M.1 1 4).toNatClampNeg)) 1 6 x2)) (P := True) 3 rfl trivial ?_
                  exact WX.vret rfl rfl (h33 c1 c16 c17 c22 c27 c28 c29 c30)
    · refine WX.run (pc' := 116) (L' := [some (.ref 1), some (.int x1), some (.int (((x2 * 10) + (M.1 2 (M.1 1 3).toNatClampNeg)) - 48)), none]) (st' := []) (M' := (wr M 1 3 ((M.1 1 3) + 1))) (P := (True ∧ vp_in (M.1 1 3) 150)) 19 rfl ⟨trivial, (b34 c1 c16)⟩ ?_
      exact (h35 c1 c16)
theorem sg_R_readNumber_1_0 {Q : Option Value → Mem → Prop} (M : Mem) (x1 x2 : Int32)
    (h1 : WX mi_R_readToken 2 (fun rv M' => WX mi_R_readNumber 3 Q 4 [some (.ref 1), some (.int x1), some (.int x2)] (rv.toList ++ []) M') 0 [some (.ref 1), none, none, none] [] M) :
    WX mi_R_readNumber 3 Q 0 [some (.ref 1), some (.int x1), some (.int x2)] [] M := by
  refine WX.run (pc' := 1) (L' := [some (.ref 1), some (.int x1), some (.int x2)]) (st' := [.ref 1]) (M' := M) (P := True) 1 rfl trivial ?_
  refine WX.callV (ca := mi_R_readToken) (n := 0) (d' := 2) (st := []) (As := []) (q := 1) rfl lk_4_42 ck_R_readToken cv_R_readToken rfl (by decide) rfl (Nat.le_of_ble_eq_true rfl) ⟨by decide, rfl, by decide⟩ (fun w hw => absurd hw List.not_mem_nil) (Nat.le_of_ble_eq_true rfl) ?_
  exact h1
theorem sg_R_readNumber_1_4 {Q : Option Value → Mem → Prop} (M : Mem) (x1 x2 : Int32)
    (h1 : ¬ (M.1 1 5) = 2 → Q (some (.int 0)) M)
    (h2 : (M.1 1 5) = 2 → (M.1 1 6) < x1 → Q (some (.int 0)) M)
    (h3 : (M.1 1 5) = 2 → ¬ (M.1 1 6) < x1 → x2 < (M.1 1 6) → Q (some (.int 0)) M)
    (h4 : (M.1 1 5) = 2 → ¬ (M.1 1 6) < x1 → ¬ x2 < (M.1 1 6) → Q (some (.int 1)) M) :
    WX mi_R_readNumber 3 Q 4 [some (.ref 1), some (.int x1), some (.int x2)] [] M := by
  refine WX.run (pc' := 9) (L' := [some (.ref 1), some (.int x1), some (.int x2)]) (st' := [.int 2, .int (M.1 1 5)]) (M' := M) (P := True) 3 rfl trivial ?_
  refine WX.icmp_ne (off := 23) (tgt := 32) rfl rfl (fun c1 => ?_) (fun c1 => ?_)
  · refine WX.run (pc' := 33) (L' := [some (.ref 1), some (.int x1), some (.int x2)]) (st' := [.int 0]) (M' := M) (P := True) 1 rfl trivial ?_
    exact WX.zret rfl rfl (Or.inl rfl) (h1 c1)
  · refine WX.run (pc' := 17) (L' := [some (.ref 1), some (.int x1), some (.int x2)]) (st' := [.int x1, .int (M.1 1 6)]) (M' := M) (P := True) 3 rfl trivial ?_
    refine WX.icmp_lt (off := 15) (tgt := 32) rfl rfl (fun c2 => ?_) (fun c2 => ?_)
    · refine WX.run (pc' := 33) (L' := [some (.ref 1), some (.int x1), some (.int x2)]) (st' := [.int 0]) (M' := M) (P := True) 1 rfl trivial ?_
      exact WX.zret rfl rfl (Or.inl rfl) (h2 c1 c2)
    · refine WX.run (pc' := 25) (L' := [some (.ref 1), some (.int x1), some (.int x2)]) (st' := [.int x2, .int (M.1 1 6)]) (M' := M) (P := True) 3 rfl trivial ?_
      refine WX.icmp_gt (off := 7) (tgt := 32) rfl rfl (fun c3 => ?_) (fun c3 => ?_)
      · refine WX.run (pc' := 33) (L' := [some (.ref 1), some (.int x1), some (.int x2)]) (st' := [.int 0]) (M' := M) (P := True) 1 rfl trivial ?_
        exact WX.zret rfl rfl (Or.inl rfl) (h3 c1 c2 c3)
      · refine WX.run (pc' := 33) (L' := [some (.ref 1), some (.int x1), some (.int x2)]) (st' := [.int 1]) (M' := M) (P := True) 2 rfl trivial ?_
        exact WX.zret rfl rfl (Or.inr rfl) (h4 c1 c2 c3)
theorem sg_R_readWide_1_0 {Q : Option Value → Mem → Prop} (M : Mem)
    (h1 : WX mi_R_readNumber 3 (fun rv M' => WX mi_R_readWide 4 Q 6 [some (.ref 1)] (rv.toList ++ []) M') 0 [some (.ref 1), some (.int 1), some (.int 4)] [] M) :
    WX mi_R_readWide 4 Q 0 [some (.ref 1)] [] M := by
  refine WX.run (pc' := 3) (L' := [some (.ref 1)]) (st' := [.int 4, .int 1, .ref 1]) (M' := M) (P := True) 3 rfl trivial ?_
  refine WX.callV (ca := mi_R_readNumber) (n := 2) (d' := 3) (st := []) (As := [.int 1, .int 4]) (q := 1) rfl lk_4_78 ck_R_readNumber cv_R_readNumber rfl (by decide) rfl (Nat.le_of_ble_eq_true rfl) ⟨by decide, rfl, by decide⟩ (by intro w hw; simp only [List.mem_cons, List.not_mem_nil, or_false] at hw; rcases hw with rfl | rfl <;> rfl) (Nat.le_of_ble_eq_true rfl) ?_
  exact h1
theorem sg_R_readWide_1_6 {Q : Option Value → Mem → Prop} (M : Mem) (r : Int32)
    (h1 : ¬ r = 0 → Q (some (.int 1)) (wr M 3 0 (M.1 1 6)))
    (h2 : r = 0 → Q (some (.int 0)) M) :
    WX mi_R_readWide 4 Q 6 [some (.ref 1)] [.int r] M := by
  refine WX.if_ne (off := 5) (tgt := 11) rfl rfl (fun c1 => ?_) (fun c1 => ?_)
  · refine WX.run (pc' := 23) (L' := [some (.ref 1)]) (st' := [.int 1]) (M' := (wr M 3 0 (M.1 1 6))) (P := True) 6 rfl trivial ?_
    exact WX.zret rfl rfl (Or.inr rfl) (h1 c1)
  · refine WX.run (pc' := 10) (L' := [some (.ref 1)]) (st' := [.int 0]) (M' := M) (P := True) 1 rfl trivial ?_
    exact WX.zret rfl rfl (Or.inl rfl) (h2 c1)
theorem sg_R_readRow_1_0 {Q : Option Value → Mem → Prop} (M : Mem)
    (h1 : WX mi_R_readRow 4 Q 2 [some (.ref 1), some (.int 0), none] [] M) :
    WX mi_R_readRow 4 Q 0 [some (.ref 1), none, none] [] M := by
  refine WX.run (pc' := 2) (L' := [some (.ref 1), some (.int 0), none]) (st' := []) (M' := M) (P := True) 2 rfl trivial ?_
  exact h1
theorem sg_R_readRow_1_2 {Q : Option Value → Mem → Prop} (M : Mem) (x1 : Int32)
    (h1 : (M.1 3 0) ≤ x1 → Q (some (.int 1)) (wr M 3 1 ((M.1 3 1) + 1)))
    (h2 : ¬ (M.1 3 0) ≤ x1 → WX mi_R_readNumber 3 (fun rv M' => WX mi_R_readRow 4 Q 32 [some (.ref 1), some (.int x1), some (.int (z_C_numberOf x1 (M.1 3 1)))] (rv.toList ++ []) M') 0 [some (.ref 1), some (.int 0), some (.int 9)] [] M) :
    WX mi_R_readRow 4 Q 2 [some (.ref 1), some (.int x1), none] [] M := by
  refine WX.run (pc' := 10) (L' := [some (.ref 1), some (.int x1), none]) (st' := [.int (M.1 3 0), .int x1]) (M' := M) (P := True) 4 rfl trivial ?_
  refine WX.icmp_ge (off := 53) (tgt := 63) rfl rfl (fun c1 => ?_) (fun c1 => ?_)
  · refine WX.run (pc' := 77) (L' := [some (.ref 1), some (.int x1), none]) (st' := [.int 1]) (M' := (wr M 3 1 ((M.1 3 1) + 1))) (P := True) 8 rfl trivial ?_
    exact WX.zret rfl rfl (Or.inr rfl) (h1 c1)
  · refine WX.run (pc' := 21) (L' := [some (.ref 1), some (.int x1), none]) (st' := [.int (M.1 3 1), .int x1]) (M' := M) (P := True) 4 rfl trivial ?_
    refine WX.callSN (ca := mi_C_numberOf) (n := 2) (d' := 1) (st := []) (As := [.int x1, .int (M.1 3 1)]) rfl lk_4_81 ck_C_numberOf cs_C_numberOf rfl (by decide) rfl (Nat.le_of_ble_eq_true rfl) (by intro w hw; simp only [List.mem_cons, List.not_mem_nil, or_false] at hw; rcases hw with rfl | rfl <;> rfl) (Nat.le_of_ble_eq_true rfl) ?_
    refine wx_C_numberOf M x1 (M.1 3 1) ?_
    show WX mi_R_readRow 4 Q 24 [some (.ref 1), some (.int x1), none] [.int (z_C_numberOf x1 (M.1 3 1))] M
    refine WX.run (pc' := 29) (L' := [some (.ref 1), some (.int x1), some (.int (z_C_numberOf x1 (M.1 3 1)))]) (st' := [.int 9, .int 0, .ref 1]) (M' := M) (P := True) 4 rfl trivial ?_
    refine WX.callV (ca := mi_R_readNumber) (n := 2) (d' := 3) (st := []) (As := [.int 0, .int 9]) (q := 1) rfl lk_4_78 ck_R_readNumber cv_R_readNumber rfl (by decide) rfl (Nat.le_of_ble_eq_true rfl) ⟨by decide, rfl, by decide⟩ (by intro w hw; simp only [List.mem_cons, List.not_mem_nil, or_false] at hw; rcases hw with rfl | rfl <;> rfl) (Nat.le_of_ble_eq_true rfl) ?_
    exact (h2 c1)
theorem sg_R_readRow_1_32 {Q : Option Value → Mem → Prop} (M : Mem) (x1 x2 r : Int32)
    (h1 : r = 0 → Q (some (.int 0)) M)
    (b2 : ¬ r = 0 → ¬ (z_C_isNumber x2) = 0 → vp_in x2 16)
    (h3 : ¬ r = 0 → ¬ (z_C_isNumber x2) = 0 → WX mi_R_readRow 4 Q 2 [some (.ref 1), some (.int (x1 + 1)), none] [] (wr M 4 x2.toNatClampNeg (M.1 1 6)))
    (h4 : ¬ r = 0 → (z_C_isNumber x2) = 0 → Q (some (.int 0)) M) :
    WX mi_R_readRow 4 Q 32 [some (.ref 1), some (.int x1), some (.int x2)] [.int r] M := by
  refine WX.if_eq (off := 10) (tgt := 42) rfl rfl (fun c1 => ?_) (fun c1 => ?_)
  · refine WX.run (pc' := 43) (L' := [some (.ref 1), some (.int x1), some (.int x2)]) (st' := [.int 0]) (M' := M) (P := True) 1 rfl trivial ?_
    exact WX.zret rfl rfl (Or.inl rfl) (h1 c1)
  · refine WX.run (pc' := 36) (L' := [some (.ref 1), some (.int x1), some (.int x2)]) (st' := [.int x2]) (M' := M) (P := True) 1 rfl trivial ?_
    refine WX.callSN (ca := mi_C_isNumber) (n := 1) (d' := 1) (st := []) (As := [.int x2]) rfl lk_4_85 ck_C_isNumber cs_C_isNumber rfl (by decide) rfl (Nat.le_of_ble_eq_true rfl) (by intro w hw; simp only [List.mem_cons, List.not_mem_nil, or_false] at hw; rcases hw with rfl <;> rfl) (Nat.le_of_ble_eq_true rfl) ?_
    refine wx_C_isNumber M x2 ?_
    show WX mi_R_readRow 4 Q 39 [some (.ref 1), some (.int x1), some (.int x2)] [.int (z_C_isNumber x2)] M
    refine WX.if_ne (off := 5) (tgt := 44) rfl rfl (fun c2 => ?_) (fun c2 => ?_)
    · refine WX.run (pc' := 2) (L' := [some (.ref 1), some (.int (x1 + 1)), some (.int x2)]) (st' := []) (M' := (wr M 4 x2.toNatClampNeg (M.1 1 6))) (P := (True ∧ vp_in x2 16)) 9 rfl ⟨trivial, (b2 c1 c2)⟩ ?_
      refine WX.forget2 (L' := [some (.ref 1), some (.int (x1 + 1)), none]) ?_ ⟨Or.inr rfl, Or.inr rfl, Or.inl rfl, trivial⟩
      exact (h3 c1 c2)
    · refine WX.run (pc' := 43) (L' := [some (.ref 1), some (.int x1), some (.int x2)]) (st' := [.int 0]) (M' := M) (P := True) 1 rfl trivial ?_
      exact WX.zret rfl rfl (Or.inl rfl) (h4 c1 c2)
theorem sg_R_readCell_1_0 {Q : Option Value → Mem → Prop} (M : Mem) (x1 : Int32)
    (h1 : WX mi_R_readNumber 3 (fun rv M' => WX mi_R_readCell 4 Q 19 [some (.ref 1), some (.int x1), none, none] (rv.toList ++ []) M') 0 [some (.ref 1), some (.int 0), some (.int ((M.1 3 0) - 1))] [] (wr M 1 9 1)) :
    WX mi_R_readCell 4 Q 0 [some (.ref 1), some (.int x1), none, none] [] M := by
  refine WX.run (pc' := 16) (L' := [some (.ref 1), some (.int x1), none, none]) (st' := [.int ((M.1 3 0) - 1), .int 0, .ref 1]) (M' := (wr M 1 9 1)) (P := (True ∧ (1 = 0 ∨ 1 = 1))) 10 rfl ⟨trivial, (Or.inr rfl)⟩ ?_
  refine WX.callV (ca := mi_R_readNumber) (n := 2) (d' := 3) (st := []) (As := [.int 0, .int ((M.1 3 0) - 1)]) (q := 1) rfl lk_4_78 ck_R_readNumber cv_R_readNumber rfl (by decide) rfl (Nat.le_of_ble_eq_true rfl) ⟨by decide, rfl, by decide⟩ (by intro w hw; simp only [List.mem_cons, List.not_mem_nil, or_false] at hw; rcases hw with rfl | rfl <;> rfl) (Nat.le_of_ble_eq_true rfl) ?_
  exact h1
theorem sg_R_readCell_1_19 {Q : Option Value → Mem → Prop} (M : Mem) (x1 r : Int32)
    (h1 : ¬ r = 0 → WX mi_R_readNumber 3 (fun rv M' => WX mi_R_readCell 4 Q 43 [some (.ref 1), some (.int x1), some (.int (M.1 1 6)), none] (rv.toList ++ []) M') 0 [some (.ref 1), some (.int 0), some (.int ((M.1 3 1) - 1))] [] M)
    (h2 : r = 0 → Q (some (.int 0)) M) :
    WX mi_R_readCell 4 Q 19 [some (.ref 1), some (.int x1), none, none] [.int r] M := by
  refine WX.if_ne (off := 5) (tgt := 24) rfl rfl (fun c1 => ?_) (fun c1 => ?_)
  · refine WX.run (pc' := 40) (L' := [some (.ref 1), some (.int x1), some (.int (M.1 1 6)), none]) (st' := [.int ((M.1 3 1) - 1), .int 0, .ref 1]) (M' := M) (P := True) 10 rfl trivial ?_
    refine WX.callV (ca := mi_R_readNumber) (n := 2) (d' := 3) (st := []) (As := [.int 0, .int ((M.1 3 1) - 1)]) (q := 1) rfl lk_4_78 ck_R_readNumber cv_R_readNumber rfl (by decide) rfl (Nat.le_of_ble_eq_true rfl) ⟨by decide, rfl, by decide⟩ (by intro w hw; simp only [List.mem_cons, List.not_mem_nil, or_false] at hw; rcases hw with rfl | rfl <;> rfl) (Nat.le_of_ble_eq_true rfl) ?_
    exact (h1 c1)
  · refine WX.run (pc' := 23) (L' := [some (.ref 1), some (.int x1), none, none]) (st' := [.int 0]) (M' := M) (P := True) 1 rfl trivial ?_
    exact WX.zret rfl rfl (Or.inl rfl) (h2 c1)
theorem sg_R_readCell_1_43 {Q : Option Value → Mem → Prop} (M : Mem) (x1 x2 r : Int32)
    (h1 : ¬ r = 0 → ¬ x1 = 111 → (z_L_sortOf_3 M (z_C_numberOf x2 (M.1 1 6))) = 0 → ¬ x1 = 108 → Q (some (.int 1)) (wr M 3 4 ((M.1 3 4) ||| (shl 1 (z_C_numberOf x2 (M.1 1 6))))))
    (h2 : ¬ r = 0 → ¬ x1 = 111 → (z_L_sortOf_3 M (z_C_numberOf x2 (M.1 1 6))) = 0 → x1 = 108 → Q (some (.int 1)) (wr M 3 3 ((M.1 3 3) ||| (shl 1 (z_C_numberOf x2 (M.1 1 6))))))
    (h3 : ¬ r = 0 → ¬ x1 = 111 → ¬ (z_L_sortOf_3 M (z_C_numberOf x2 (M.1 1 6))) = 0 → Q (some (.int 0)) M)
    (h4 : ¬ r = 0 → x1 = 111 → Q (some (.int 1)) (wr (wr M 3 2 (z_C_numberOf x2 (M.1 1 6))) 1 7 1))
    (h5 : r = 0 → Q (some (.int 0)) M) :
    WX mi_R_readCell 4 Q 43 [some (.ref 1), some (.int x1), some (.int x2), none] [.int r] M := by
  refine WX.if_ne (off := 5) (tgt := 48) rfl rfl (fun c1 => ?_) (fun c1 => ?_)
  · refine WX.run (pc' := 53) (L' := [some (.ref 1), some (.int x1), some (.int x2), none]) (st' := [.int (M.1 1 6), .int x2]) (M' := M) (P := True) 3 rfl trivial ?_
    refine WX.callSN (ca := mi_C_numberOf) (n := 2) (d' := 1) (st := []) (As := [.int x2, .int (M.1 1 6)]) rfl lk_4_81 ck_C_numberOf cs_C_numberOf rfl (by decide) rfl (Nat.le_of_ble_eq_true rfl) (by intro w hw; simp only [List.mem_cons, List.not_mem_nil, or_false] at hw; rcases hw with rfl | rfl <;> rfl) (Nat.le_of_ble_eq_true rfl) ?_
    refine wx_C_numberOf M x2 (M.1 1 6) ?_
    show WX mi_R_readCell 4 Q 56 [some (.ref 1), some (.int x1), some (.int x2), none] [.int (z_C_numberOf x2 (M.1 1 6))] M
    refine WX.run (pc' := 60) (L' := [some (.ref 1), some (.int x1), some (.int x2), some (.int (z_C_numberOf x2 (M.1 1 6)))]) (st' := [.int 111, .int x1]) (M' := M) (P := True) 3 rfl trivial ?_
    refine WX.icmp_ne (off := 18) (tgt := 78) rfl rfl (fun c2 => ?_) (fun c2 => ?_)
    · refine WX.run (pc' := 83) (L' := [some (.ref 1), some (.int x1), some (.int x2), some (.int (z_C_numberOf x2 (M.1 1 6)))]) (st' := [.int (z_C_numberOf x2 (M.1 1 6)), .ref 3]) (M' := M) (P := True) 3 rfl trivial ?_
      refine WX.callV (ca := mi_L_sortOf) (n := 1) (d' := 2) (st := []) (As := [.int (z_C_numberOf x2 (M.1 1 6))]) (q := 3) rfl lk_4_94 ck_L_sortOf cv_L_sortOf rfl (by decide) rfl (Nat.le_of_ble_eq_true rfl) ⟨by decide, rfl, by decide⟩ (by intro w hw; simp only [List.mem_cons, List.not_mem_nil, or_false] at hw; rcases hw with rfl <;> rfl) (Nat.le_of_ble_eq_true rfl) ?_
      refine wx_L_sortOf_3 M (z_C_numberOf x2 (M.1 1 6)) ?_
      show WX mi_R_readCell 4 Q 86 [some (.ref 1), some (.int x1), some (.int x2), some (.int (z_C_numberOf x2 (M.1 1 6)))] [.int (z_L_sortOf_3 M (z_C_numberOf x2 (M.1 1 6)))] M
      refine WX.if_eq (off := 5) (tgt := 91) rfl rfl (fun c3 => ?_) (fun c3 => ?_)
      · refine WX.run (pc' := 94) (L' := [some (.ref 1), some (.int x1), some (.int x2), some (.int (z_C_numberOf x2 (M.1 1 6)))]) (st' := [.int 108, .int x1]) (M' := M) (P := True) 2 rfl trivial ?_
        refine WX.icmp_ne (off := 21) (tgt := 115) rfl rfl (fun c4 => ?_) (fun c4 => ?_)
        · refine WX.run (pc' := 131) (L' := [some (.ref 1), some (.int x1), some (.int x2), some (.int (z_C_numberOf x2 (M.1 1 6)))]) (st' := [.int 1]) (M' := (wr M 3 4 ((M.1 3 4) ||| (shl 1 (z_C_numberOf x2 (M.1 1 6)))))) (P := True) 10 rfl trivial ?_
          exact WX.zret rfl rfl (Or.inr rfl) (h1 c1 c2 c3 c4)
        · refine WX.run (pc' := 131) (L' := [some (.ref 1), some (.int x1), some (.int x2), some (.int (z_C_numberOf x2 (M.1 1 6)))]) (st' := [.int 1]) (M' := (wr M 3 3 ((M.1 3 3) ||| (shl 1 (z_C_numberOf x2 (M.1 1 6)))))) (P := True) 11 rfl trivial ?_
          exact WX.zret rfl rfl (Or.inr rfl) (h2 c1 c2 c3 c4)
      · refine WX.run (pc' := 90) (L' := [some (.ref 1), some (.int x1), some (.int x2), some (.int (z_C_numberOf x2 (M.1 1 6)))]) (st' := [.int 0]) (M' := M) (P := True) 1 rfl trivial ?_
        exact WX.zret rfl rfl (Or.inl rfl) (h3 c1 c2 c3)
    · refine WX.run (pc' := 77) (L' := [some (.ref 1), some (.int x1), some (.int x2), some (.int (z_C_numberOf x2 (M.1 1 6)))]) (st' := [.int 1]) (M' := (wr (wr M 3 2 (z_C_numberOf x2 (M.1 1 6))) 1 7 1)) (P := (True ∧ (1 = 0 ∨ 1 = 1))) 8 rfl ⟨trivial, (Or.inr rfl)⟩ ?_
      exact WX.zret rfl rfl (Or.inr rfl) (h4 c1 c2)
  · refine WX.run (pc' := 47) (L' := [some (.ref 1), some (.int x1), some (.int x2), none]) (st' := [.int 0]) (M' := M) (P := True) 1 rfl trivial ?_
    exact WX.zret rfl rfl (Or.inl rfl) (h5 c1)
theorem sg_R_readStock_1_0 {Q : Option Value → Mem → Prop} (M : Mem)
    (h1 : WX mi_R_readStock 4 Q 2 [some (.ref 1), some (.int 0)] [] M) :
    WX mi_R_readStock 4 Q 0 [some (.ref 1), none] [] M := by
  refine WX.run (pc' := 2) (L' := [some (.ref 1), some (.int 0)]) (st' := []) (M' := M) (P := True) 2 rfl trivial ?_
  exact h1
theorem sg_R_readStock_1_2 {Q : Option Value → Mem → Prop} (M : Mem) (x1 : Int32)
    (h1 : 4 ≤ x1 → Q (some (.int 1)) (wr M 1 8 1))
    (h2 : ¬ 4 ≤ x1 → WX mi_R_readNumber 3 (fun rv M' => WX mi_R_readStock 4 Q 14 [some (.ref 1), some (.int x1)] (rv.toList ++ []) M') 0 [some (.ref 1), some (.int 0), some (.int 20)] [] M) :
    WX mi_R_readStock 4 Q 2 [some (.ref 1), some (.int x1)] [] M := by
  refine WX.run (pc' := 4) (L' := [some (.ref 1), some (.int x1)]) (st' := [.int 4, .int x1]) (M' := M) (P := True) 2 rfl trivial ?_
  refine WX.icmp_ge (off := 34) (tgt := 38) rfl rfl (fun c1 => ?_) (fun c1 => ?_)
  · refine WX.run (pc' := 44) (L' := [some (.ref 1), some (.int x1)]) (st' := [.int 1]) (M' := (wr M 1 8 1)) (P := (True ∧ (1 = 0 ∨ 1 = 1))) 4 rfl ⟨trivial, (Or.inr rfl)⟩ ?_
    exact WX.zret rfl rfl (Or.inr rfl) (h1 c1)
  · refine WX.run (pc' := 11) (L' := [some (.ref 1), some (.int x1)]) (st' := [.int 20, .int 0, .ref 1]) (M' := M) (P := True) 3 rfl trivial ?_
    refine WX.callV (ca := mi_R_readNumber) (n := 2) (d' := 3) (st := []) (As := [.int 0, .int 20]) (q := 1) rfl lk_4_78 ck_R_readNumber cv_R_readNumber rfl (by decide) rfl (Nat.le_of_ble_eq_true rfl) ⟨by decide, rfl, by decide⟩ (by intro w hw; simp only [List.mem_cons, List.not_mem_nil, or_false] at hw; rcases hw with rfl | rfl <;> rfl) (Nat.le_of_ble_eq_true rfl) ?_
    exact (h2 c1)
theorem sg_R_readStock_1_14 {Q : Option Value → Mem → Prop} (M : Mem) (x1 r : Int32)
    (b1 : ¬ r = 0 → vp_in x1 4)
    (h2 : ¬ r = 0 → WX mi_R_readStock 4 Q 2 [some (.ref 1), some (.int (x1 + 1))] [] (wr M 5 x1.toNatClampNeg (M.1 1 6)))
    (h3 : r = 0 → Q (some (.int 0)) M) :
    WX mi_R_readStock 4 Q 14 [some (.ref 1), some (.int x1)] [.int r] M := by
  refine WX.if_ne (off := 5) (tgt := 19) rfl rfl (fun c1 => ?_) (fun c1 => ?_)
  · refine WX.run (pc' := 2) (L' := [some (.ref 1), some (.int (x1 + 1))]) (st' := []) (M' := (wr M 5 x1.toNatClampNeg (M.1 1 6))) (P := (True ∧ vp_in x1 4)) 9 rfl ⟨trivial, (b1 c1)⟩ ?_
    exact (h2 c1)
  · refine WX.run (pc' := 18) (L' := [some (.ref 1), some (.int x1)]) (st' := [.int 0]) (M' := M) (P := True) 1 rfl trivial ?_
    exact WX.zret rfl rfl (Or.inl rfl) (h3 c1)
theorem sg_R_readTold_1_0 {Q : Option Value → Mem → Prop} (M : Mem) (x1 x2 : Int32)
    (h1 : (M.1 3 0) ≤ 0 → x1 = 100 → Q (some (.int 0)) M)
    (h2 : (M.1 3 0) ≤ 0 → x1 = 108 → Q (some (.int 0)) M)
    (h3 : (M.1 3 0) ≤ 0 → x1 = 111 → Q (some (.int 0)) M)
    (h4 : (M.1 3 0) ≤ 0 → x1 = 114 → Q (some (.int 0)) M)
    (h5 : (M.1 3 0) ≤ 0 → x1 = 115 → ¬ (M.1 1 8) = 0 → Q (some (.int 0)) M)
    (h6 : (M.1 3 0) ≤ 0 → x1 = 115 → (M.1 1 8) = 0 → WX mi_R_readStock 4 (fun rv M' => WX mi_R_readTold 5 Q 218 [some (.ref 1), some (.int x1), some (.int x2), some (.int 0)] (rv.toList ++ []) M') 0 [some (.ref 1), none] [] M)
    (h7 : (M.1 3 0) ≤ 0 → x1 = 119 → ¬ x2 = 0 → Q (some (.int 0)) M)
    (h8 : (M.1 3 0) ≤ 0 → x1 = 119 → x2 = 0 → WX mi_R_readWide 4 (fun rv M' => WX mi_R_readTold 5 Q 120 [some (.ref 1), some (.int x1), some (.int x2), some (.int 0)] (rv.toList ++ []) M') 0 [some (.ref 1)] [] M)
    (h9 : (M.1 3 0) ≤ 0 → ¬ x1 = 100 → ¬ x1 = 108 → ¬ x1 = 111 → ¬ x1 = 114 → ¬ x1 = 115 → ¬ x1 = 119 → Q (some (.int 0)) M)
    (h10 : ¬ (M.1 3 0) ≤ 0 → x1 = 100 → WX mi_R_readCell 4 (fun rv M' => WX mi_R_readTold 5 Q 173 [some (.ref 1), some (.int x1), some (.int x2), some (.int 1)] (rv.toList ++ []) M') 0 [some (.ref 1), some (.int x1), none, none] [] M)
    (h11 : ¬ (M.1 3 0) ≤ 0 → x1 = 108 → WX mi_R_readCell 4 (fun rv M' => WX mi_R_readTold 5 Q 173 [some (.ref 1), some (.int x1), some (.int x2), some (.int 1)] (rv.toList ++ []) M') 0 [some (.ref 1), some (.int x1), none, none] [] M)
    (h12 : ¬ (M.1 3 0) ≤ 0 → x1 = 111 → ¬ (M.1 1 7) = 0 → Q (some (.int 0)) M)
    (h13 : ¬ (M.1 3 0) ≤ 0 → x1 = 111 → (M.1 1 7) = 0 → WX mi_R_readCell 4 (fun rv M' => WX mi_R_readTold 5 Q 198 [some (.ref 1), some (.int x1), some (.int x2), some (.int 1)] (rv.toList ++ []) M') 0 [some (.ref 1), some (.int x1), none, none] [] M)
    (h14 : ¬ (M.1 3 0) ≤ 0 → x1 = 114 → ¬ (M.1 1 9) = 0 → Q (some (.int 0)) M)
    (h15 : ¬ (M.1 3 0) ≤ 0 → x1 = 114 → (M.1 1 9) = 0 → 4 ≤ (M.1 3 1) → Q (some (.int 0)) M)
    (h16 : ¬ (M.1 3 0) ≤ 0 → x1 = 114 → (M.1 1 9) = 0 → ¬ 4 ≤ (M.1 3 1) → WX mi_R_readRow 4 (fun rv M' => WX mi_R_readTold 5 Q 155 [some (.ref 1), some (.int x1), some (.int x2), some (.int 1)] (rv.toList ++ []) M') 0 [some (.ref 1), none, none] [] M)
    (h17 : ¬ (M.1 3 0) ≤ 0 → x1 = 115 → ¬ (M.1 1 8) = 0 → Q (some (.int 0)) M)
    (h18 : ¬ (M.1 3 0) ≤ 0 → x1 = 115 → (M.1 1 8) = 0 → WX mi_R_readStock 4 (fun rv M' => WX mi_R_readTold 5 Q 218 [some (.ref 1), some (.int x1), some (.int x2), some (.int 1)] (rv.toList ++ []) M') 0 [some (.ref 1), none] [] M)
    (h19 : ¬ (M.1 3 0) ≤ 0 → x1 = 119 → ¬ x2 = 0 → Q (some (.int 0)) M)
    (h20 : ¬ (M.1 3 0) ≤ 0 → x1 = 119 → x2 = 0 → WX mi_R_readWide 4 (fun rv M' => WX mi_R_readTold 5 Q 120 [some (.ref 1), some (.int x1), some (.int x2), some (.int 1)] (rv.toList ++ []) M') 0 [some (.ref 1)] [] M)
    (h21 : ¬ (M.1 3 0) ≤ 0 → ¬ x1 = 100 → ¬ x1 = 108 → ¬ x1 = 111 → ¬ x1 = 114 → ¬ x1 = 115 → ¬ x1 = 119 → Q (some (.int 0)) M) :
    WX mi_R_readTold 5 Q 0 [some (.ref 1), some (.int x1), some (.int x2), none] [] M := by
  refine WX.run (pc' := 7) (L' := [some (.ref 1), some (.int x1), some (.int x2), none]) (st' := [.int (M.1 3 0)]) (M' := M) (P := True) 3 rfl trivial ?_
  refine WX.if_le (off := 7) (tgt := 14) rfl rfl (fun c1 => ?_) (fun c1 => ?_)
  · refine WX.run (pc' := 17) (L' := [some (.ref 1), some (.int x1), some (.int x2), some (.int 0)]) (st' := [.int x1]) (M' := M) (P := True) 3 rfl trivial ?_
    by_cases c2 : x1 = 100
    · refine WX.tsw (tgt := 164) rfl (by decide) (by rw [c2]; decide) ?_
      refine WX.run (pc' := 165) (L' := [some (.ref 1), some (.int x1), some (.int x2), some (.int 0)]) (st' := [.int 0]) (M' := M) (P := True) 1 rfl trivial ?_
      refine WX.if_eq (off := 15) (tgt := 180) rfl rfl (fun _ => ?_) (fun c => absurd (by decide) c)
      refine WX.run (pc' := 181) (L' := [some (.ref 1), some (.int x1), some (.int x2), some (.int 0)]) (st' := [.int 0]) (M' := M) (P := True) 1 rfl trivial ?_
      exact WX.zret rfl rfl (Or.inl rfl) (h1 c1 c2)
    · skip
      by_cases c3 : x1 = 108
      · refine WX.tsw (tgt := 164) rfl (by decide) (by rw [c3]; decide) ?_
        refine WX.run (pc' := 165) (L' := [some (.ref 1), some (.int x1), some (.int x2), some (.int 0)]) (st' := [.int 0]) (M' := M) (P := True) 1 rfl trivial ?_
        refine WX.if_eq (off := 15) (tgt := 180) rfl rfl (fun _ => ?_) (fun c => absurd (by decide) c)
        refine WX.run (pc' := 181) (L' := [some (.ref 1), some (.int x1), some (.int x2), some (.int 0)]) (st' := [.int 0]) (M' := M) (P := True) 1 rfl trivial ?_
        exact WX.zret rfl rfl (Or.inl rfl) (h2 c1 c3)
      · skip
        by_cases c4 : x1 = 111
        · refine WX.tsw (tgt := 182) rfl (by decide) (by rw [c4]; decide) ?_
          refine WX.run (pc' := 183) (L' := [some (.ref 1), some (.int x1), some (.int x2), some (.int 0)]) (st' := [.int 0]) (M' := M) (P := True) 1 rfl trivial ?_
          refine WX.if_eq (off := 22) (tgt := 205) rfl rfl (fun _ => ?_) (fun c => absurd (by decide) c)
          refine WX.run (pc' := 206) (L' := [some (.ref 1), some (.int x1), some (.int x2), some (.int 0)]) (st' := [.int 0]) (M' := M) (P := True) 1 rfl trivial ?_
          exact WX.zret rfl rfl (Or.inl rfl) (h3 c1 c4)
        · skip
          by_cases c5 : x1 = 114
          · refine WX.tsw (tgt := 129) rfl (by decide) (by rw [c5]; decide) ?_
            refine WX.run (pc' := 130) (L' := [some (.ref 1), some (.int x1), some (.int x2), some (.int 0)]) (st' := [.int 0]) (M' := M) (P := True) 1 rfl trivial ?_
            refine WX.if_eq (off := 32) (tgt := 162) rfl rfl (fun _ => ?_) (fun c => absurd (by decide) c)
            refine WX.run (pc' := 163) (L' := [some (.ref 1), some (.int x1), some (.int x2), some (.int 0)]) (st' := [.int 0]) (M' := M) (P := True) 1 rfl trivial ?_
            exact WX.zret rfl rfl (Or.inl rfl) (h4 c1 c5)
          · skip
            by_cases c6 : x1 = 115
            · refine WX.tsw (tgt := 207) rfl (by decide) (by rw [c6]; decide) ?_
              refine WX.run (pc' := 211) (L' := [some (.ref 1), some (.int x1), some (.int x2), some (.int 0)]) (st' := [.int (M.1 1 8)]) (M' := M) (P := True) 2 rfl trivial ?_
              refine WX.if_ne (off := 14) (tgt := 225) rfl rfl (fun c7 => ?_) (fun c7 => ?_)
              · refine WX.run (pc' := 226) (L' := [some (.ref 1), some (.int x1), some (.int x2), some (.int 0)]) (st' := [.int 0]) (M' := M) (P := True) 1 rfl trivial ?_
                exact WX.zret rfl rfl (Or.inl rfl) (h5 c1 c6 c7)
              · refine WX.run (pc' := 215) (L' := [some (.ref 1), some (.int x1), some (.int x2), some (.int 0)]) (st' := [.ref 1]) (M' := M) (P := True) 1 rfl trivial ?_
                refine WX.callV (ca := mi_R_readStock) (n := 0) (d' := 4) (st := []) (As := []) (q := 1) rfl lk_4_75 ck_R_readStock cv_R_readStock rfl (by decide) rfl (Nat.le_of_ble_eq_true rfl) ⟨by decide, rfl, by decide⟩ (fun w hw => absurd hw List.not_mem_nil) (Nat.le_of_ble_eq_true rfl) ?_
                exact (h6 c1 c6 c7)
            · skip
              by_cases c8 : x1 = 119
              · refine WX.tsw (tgt := 112) rfl (by decide) (by rw [c8]; decide) ?_
                refine WX.run (pc' := 113) (L' := [some (.ref 1), some (.int x1), some (.int x2), some (.int 0)]) (st' := [.int x2]) (M' := M) (P := True) 1 rfl trivial ?_
                refine WX.if_ne (off := 14) (tgt := 127) rfl rfl (fun c9 => ?_) (fun c9 => ?_)
                · refine WX.run (pc' := 128) (L' := [some (.ref 1), some (.int x1), some (.int x2), some (.int 0)]) (st' := [.int 0]) (M' := M) (P := True) 1 rfl trivial ?_
                  exact WX.zret rfl rfl (Or.inl rfl) (h7 c1 c8 c9)
                · refine WX.run (pc' := 117) (L' := [some (.ref 1), some (.int x1), some (.int x2), some (.int 0)]) (st' := [.ref 1]) (M' := M) (P := True) 1 rfl trivial ?_
                  refine WX.callV (ca := mi_R_readWide) (n := 0) (d' := 4) (st := []) (As := []) (q := 1) rfl lk_4_61 ck_R_readWide cv_R_readWide rfl (by decide) rfl (Nat.le_of_ble_eq_true rfl) ⟨by decide, rfl, by decide⟩ (fun w hw => absurd hw List.not_mem_nil) (Nat.le_of_ble_eq_true rfl) ?_
                  exact (h8 c1 c8 c9)
              · skip
                refine WX.tsw (tgt := 227) rfl (by decide) (by
                      by_cases hr : (x1).toInt < 100 ∨ 119 < (x1).toInt
                      · unfold tswo; rw [if_pos hr]; rfl
                      · have hh : (x1).toInt = 100 ∨ (x1).toInt = 101 ∨ (x1).toInt = 102 ∨ (x1).toInt = 103 ∨ (x1).toInt = 104 ∨ (x1).toInt = 105 ∨ (x1).toInt = 106 ∨ (x1).toInt = 107 ∨ (x1).toInt = 108 ∨ (x1).toInt = 109 ∨ (x1).toInt = 110 ∨ (x1).toInt = 111 ∨ (x1).toInt = 112 ∨ (x1).toInt = 113 ∨ (x1).toInt = 114 ∨ (x1).toInt = 115 ∨ (x1).toInt = 116 ∨ (x1).toInt = 117 ∨ (x1).toInt = 118 ∨ (x1).toInt = 119 := by omega
                        rcases hh with hh | hh | hh | hh | hh | hh | hh | hh | hh | hh | hh | hh | hh | hh | hh | hh | hh | hh | hh | hh
                        · exact absurd hh (i32_ne c2 (by decide))
                        · rw [hh]; rfl
                        · rw [hh]; rfl
                        · rw [hh]; rfl
                        · rw [hh]; rfl
                        · rw [hh]; rfl
                        · rw [hh]; rfl
                        · rw [hh]; rfl
                        · exact absurd hh (i32_ne c3 (by decide))
                        · rw [hh]; rfl
                        · rw [hh]; rfl
                        · exact absurd hh (i32_ne c4 (by decide))
                        · rw [hh]; rfl
                        · rw [hh]; rfl
                        · exact absurd hh (i32_ne c5 (by decide))
                        · exact absurd hh (i32_ne c6 (by decide))
                        · rw [hh]; rfl
                        · rw [hh]; rfl
                        · rw [hh]; rfl
                        · exact absurd hh (i32_ne c8 (by decide))) ?_
                refine WX.run (pc' := 228) (L' := [some (.ref 1), some (.int x1), some (.int x2), some (.int 0)]) (st' := [.int 0]) (M' := M) (P := True) 1 rfl trivial ?_
                exact WX.zret rfl rfl (Or.inl rfl) (h9 c1 c2 c3 c4 c5 c6 c8)
  · refine WX.run (pc' := 17) (L' := [some (.ref 1), some (.int x1), some (.int x2), some (.int 1)]) (st' := [.int x1]) (M' := M) (P := True) 4 rfl trivial ?_
    by_cases c10 : x1 = 100
    · refine WX.tsw (tgt := 164) rfl (by decide) (by rw [c10]; decide) ?_
      refine WX.run (pc' := 165) (L' := [some (.ref 1), some (.int x1), some (.int x2), some (.int 1)]) (st' := [.int 1]) (M' := M) (P := True) 1 rfl trivial ?_
      refine WX.if_eq (off := 15) (tgt := 180) rfl rfl (fun c => absurd c (by decide)) (fun _ => ?_)
      refine WX.run (pc' := 170) (L' := [some (.ref 1), some (.int x1), some (.int x2), some (.int 1)]) (st' := [.int x1, .ref 1]) (M' := M) (P := True) 2 rfl trivial ?_
      refine WX.callV (ca := mi_R_readCell) (n := 1) (d' := 4) (st := []) (As := [.int x1]) (q := 1) rfl lk_4_71 ck_R_readCell cv_R_readCell rfl (by decide) rfl (Nat.le_of_ble_eq_true rfl) ⟨by decide, rfl, by decide⟩ (by intro w hw; simp only [List.mem_cons, List.not_mem_nil, or_false] at hw; rcases hw with rfl <;> rfl) (Nat.le_of_ble_eq_true rfl) ?_
      exact (h10 c1 c10)
    · skip
      by_cases c11 : x1 = 108
      · refine WX.tsw (tgt := 164) rfl (by decide) (by rw [c11]; decide) ?_
        refine WX.run (pc' := 165) (L' := [some (.ref 1), some (.int x1), some (.int x2), some (.int 1)]) (st' := [.int 1]) (M' := M) (P := True) 1 rfl trivial ?_
        refine WX.if_eq (off := 15) (tgt := 180) rfl rfl (fun c => absurd c (by decide)) (fun _ => ?_)
        refine WX.run (pc' := 170) (L' := [some (.ref 1), some (.int x1), some (.int x2), some (.int 1)]) (st' := [.int x1, .ref 1]) (M' := M) (P := True) 2 rfl trivial ?_
        refine WX.callV (ca := mi_R_readCell) (n := 1) (d' := 4) (st := []) (As := [.int x1]) (q := 1) rfl lk_4_71 ck_R_readCell cv_R_readCell rfl (by decide) rfl (Nat.le_of_ble_eq_true rfl) ⟨by decide, rfl, by decide⟩ (by intro w hw; simp only [List.mem_cons, List.not_mem_nil, or_false] at hw; rcases hw with rfl <;> rfl) (Nat.le_of_ble_eq_true rfl) ?_
        exact (h11 c1 c11)
      · skip
        by_cases c12 : x1 = 111
        · refine WX.tsw (tgt := 182) rfl (by decide) (by rw [c12]; decide) ?_
          refine WX.run (pc' := 183) (L' := [some (.ref 1), some (.int x1), some (.int x2), some (.int 1)]) (st' := [.int 1]) (M' := M) (P := True) 1 rfl trivial ?_
          refine WX.if_eq (off := 22) (tgt := 205) rfl rfl (fun c => absurd c (by decide)) (fun _ => ?_)
          refine WX.run (pc' := 190) (L' := [some (.ref 1), some (.int x1), some (.int x2), some (.int 1)]) (st' := [.int (M.1 1 7)]) (M' := M) (P := True) 2 rfl trivial ?_
          refine WX.if_ne (off := 15) (tgt := 205) rfl rfl (fun c13 => ?_) (fun c13 => ?_)
          · refine WX.run (pc' := 206) (L' := [some (.ref 1), some (.int x1), some (.int x2), some (.int 1)]) (st' := [.int 0]) (M' := M) (P := True) 1 rfl trivial ?_
            exact WX.zret rfl rfl (Or.inl rfl) (h12 c1 c12 c13)
          · refine WX.run (pc' := 195) (L' := [some (.ref 1), some (.int x1), some (.int x2), some (.int 1)]) (st' := [.int x1, .ref 1]) (M' := M) (P := True) 2 rfl trivial ?_
            refine WX.callV (ca := mi_R_readCell) (n := 1) (d' := 4) (st := []) (As := [.int x1]) (q := 1) rfl lk_4_71 ck_R_readCell cv_R_readCell rfl (by decide) rfl (Nat.le_of_ble_eq_true rfl) ⟨by decide, rfl, by decide⟩ (by intro w hw; simp only [List.mem_cons, List.not_mem_nil, or_false] at hw; rcases hw with rfl <;> rfl) (Nat.le_of_ble_eq_true rfl) ?_
            exact (h13 c1 c12 c13)
        · skip
          by_cases c14 : x1 = 114
          · refine WX.tsw (tgt := 129) rfl (by decide) (by rw [c14]; decide) ?_
            refine WX.run (pc' := 130) (L' := [some (.ref 1), some (.int x1), some (.int x2), some (.int 1)]) (st' := [.int 1]) (M' := M) (P := True) 1 rfl trivial ?_
            refine WX.if_eq (off := 32) (tgt := 162) rfl rfl (fun c => absurd c (by decide)) (fun _ => ?_)
            refine WX.run (pc' := 137) (L' := [some (.ref 1), some (.int x1), some (.int x2), some (.int 1)]) (st' := [.int (M.1 1 9)]) (M' := M) (P := True) 2 rfl trivial ?_
            refine WX.if_ne (off := 25) (tgt := 162) rfl rfl (fun c15 => ?_) (fun c15 => ?_)
            · refine WX.run (pc' := 163) (L' := [some (.ref 1), some (.int x1), some (.int x2), some (.int 1)]) (st' := [.int 0]) (M' := M) (P := True) 1 rfl trivial ?_
              exact WX.zret rfl rfl (Or.inl rfl) (h14 c1 c14 c15)
            · refine WX.run (pc' := 148) (L' := [some (.ref 1), some (.int x1), some (.int x2), some (.int 1)]) (st' := [.int 4, .int (M.1 3 1)]) (M' := M) (P := True) 4 rfl trivial ?_
              refine WX.icmp_ge (off := 14) (tgt := 162) rfl rfl (fun c16 => ?_) (fun c16 => ?_)
              · refine WX.run (pc' := 163) (L' := [some (.ref 1), some (.int x1), some (.int x2), some (.int 1)]) (st' := [.int 0]) (M' := M) (P := True) 1 rfl trivial ?_
                exact WX.zret rfl rfl (Or.inl rfl) (h15 c1 c14 c15 c16)
              · refine WX.run (pc' := 152) (L' := [some (.ref 1), some (.int x1), some (.int x2), some (.int 1)]) (st' := [.ref 1]) (M' := M) (P := True) 1 rfl trivial ?_
                refine WX.callV (ca := mi_R_readRow) (n := 0) (d' := 4) (st := []) (As := []) (q := 1) rfl lk_4_68 ck_R_readRow cv_R_readRow rfl (by decide) rfl (Nat.le_of_ble_eq_true rfl) ⟨by decide, rfl, by decide⟩ (fun w hw => absurd hw List.not_mem_nil) (Nat.le_of_ble_eq_true rfl) ?_
                exact (h16 c1 c14 c15 c16)
          · skip
            by_cases c17 : x1 = 115
            · refine WX.tsw (tgt := 207) rfl (by decide) (by rw [c17]; decide) ?_
              refine WX.run (pc' := 211) (L' := [some (.ref 1), some (.int x1), some (.int x2), some (.int 1)]) (st' := [.int (M.1 1 8)]) (M' := M) (P := True) 2 rfl trivial ?_
              refine WX.if_ne (off := 14) (tgt := 225) rfl rfl (fun c18 => ?_) (fun c18 => ?_)
              · refine WX.run (pc' := 226) (L' := [some (.ref 1), some (.int x1), some (.int x2), some (.int 1)]) (st' := [.int 0]) (M' := M) (P := True) 1 rfl trivial ?_
                exact WX.zret rfl rfl (Or.inl rfl) (h17 c1 c17 c18)
              · refine WX.run (pc' := 215) (L' := [some (.ref 1), some (.int x1), some (.int x2), some (.int 1)]) (st' := [.ref 1]) (M' := M) (P := True) 1 rfl trivial ?_
                refine WX.callV (ca := mi_R_readStock) (n := 0) (d' := 4) (st := []) (As := []) (q := 1) rfl lk_4_75 ck_R_readStock cv_R_readStock rfl (by decide) rfl (Nat.le_of_ble_eq_true rfl) ⟨by decide, rfl, by decide⟩ (fun w hw => absurd hw List.not_mem_nil) (Nat.le_of_ble_eq_true rfl) ?_
                exact (h18 c1 c17 c18)
            · skip
              by_cases c19 : x1 = 119
              · refine WX.tsw (tgt := 112) rfl (by decide) (by rw [c19]; decide) ?_
                refine WX.run (pc' := 113) (L' := [some (.ref 1), some (.int x1), some (.int x2), some (.int 1)]) (st' := [.int x2]) (M' := M) (P := True) 1 rfl trivial ?_
                refine WX.if_ne (off := 14) (tgt := 127) rfl rfl (fun c20 => ?_) (fun c20 => ?_)
                · refine WX.run (pc' := 128) (L' := [some (.ref 1), some (.int x1), some (.int x2), some (.int 1)]) (st' := [.int 0]) (M' := M) (P := True) 1 rfl trivial ?_
                  exact WX.zret rfl rfl (Or.inl rfl) (h19 c1 c19 c20)
                · refine WX.run (pc' := 117) (L' := [some (.ref 1), some (.int x1), some (.int x2), some (.int 1)]) (st' := [.ref 1]) (M' := M) (P := True) 1 rfl trivial ?_
                  refine WX.callV (ca := mi_R_readWide) (n := 0) (d' := 4) (st := []) (As := []) (q := 1) rfl lk_4_61 ck_R_readWide cv_R_readWide rfl (by decide) rfl (Nat.le_of_ble_eq_true rfl) ⟨by decide, rfl, by decide⟩ (fun w hw => absurd hw List.not_mem_nil) (Nat.le_of_ble_eq_true rfl) ?_
                  exact (h20 c1 c19 c20)
              · skip
                refine WX.tsw (tgt := 227) rfl (by decide) (by
                      by_cases hr : (x1).toInt < 100 ∨ 119 < (x1).toInt
                      · unfold tswo; rw [if_pos hr]; rfl
                      · have hh : (x1).toInt = 100 ∨ (x1).toInt = 101 ∨ (x1).toInt = 102 ∨ (x1).toInt = 103 ∨ (x1).toInt = 104 ∨ (x1).toInt = 105 ∨ (x1).toInt = 106 ∨ (x1).toInt = 107 ∨ (x1).toInt = 108 ∨ (x1).toInt = 109 ∨ (x1).toInt = 110 ∨ (x1).toInt = 111 ∨ (x1).toInt = 112 ∨ (x1).toInt = 113 ∨ (x1).toInt = 114 ∨ (x1).toInt = 115 ∨ (x1).toInt = 116 ∨ (x1).toInt = 117 ∨ (x1).toInt = 118 ∨ (x1).toInt = 119 := by omega
                        rcases hh with hh | hh | hh | hh | hh | hh | hh | hh | hh | hh | hh | hh | hh | hh | hh | hh | hh | hh | hh | hh
                        · exact absurd hh (i32_ne c10 (by decide))
                        · rw [hh]; rfl
                        · rw [hh]; rfl
                        · rw [hh]; rfl
                        · rw [hh]; rfl
                        · rw [hh]; rfl
                        · rw [hh]; rfl
                        · rw [hh]; rfl
                        · exact absurd hh (i32_ne c11 (by decide))
                        · rw [hh]; rfl
                        · rw [hh]; rfl
                        · exact absurd hh (i32_ne c12 (by decide))
                        · rw [hh]; rfl
                        · rw [hh]; rfl
                        · exact absurd hh (i32_ne c14 (by decide))
                        · exact absurd hh (i32_ne c17 (by decide))
                        · rw [hh]; rfl
                        · rw [hh]; rfl
                        · rw [hh]; rfl
                        · exact absurd hh (i32_ne c19 (by decide))) ?_
                refine WX.run (pc' := 228) (L' := [some (.ref 1), some (.int x1), some (.int x2), some (.int 1)]) (st' := [.int 0]) (M' := M) (P := True) 1 rfl trivial ?_
                exact WX.zret rfl rfl (Or.inl rfl) (h21 c1 c10 c11 c12 c14 c17 c19)
theorem sg_R_readTold_1_218 {Q : Option Value → Mem → Prop} (M : Mem) (x1 x2 x3 r : Int32)
    (h1 : r = 0 → Q (some (.int 0)) M)
    (h2 : ¬ r = 0 → Q (some (.int 1)) M) :
    WX mi_R_readTold 5 Q 218 [some (.ref 1), some (.int x1), some (.int x2), some (.int x3)] [.int r] M := by
  refine WX.if_eq (off := 7) (tgt := 225) rfl rfl (fun c1 => ?_) (fun c1 => ?_)
  · refine WX.run (pc' := 226) (L' := [some (.ref 1), some (.int x1), some (.int x2), some (.int x3)]) (st' := [.int 0]) (M' := M) (P := True) 1 rfl trivial ?_
    exact WX.zret rfl rfl (Or.inl rfl) (h1 c1)
  · refine WX.run (pc' := 226) (L' := [some (.ref 1), some (.int x1), some (.int x2), some (.int x3)]) (st' := [.int 1]) (M' := M) (P := True) 2 rfl trivial ?_
    exact WX.zret rfl rfl (Or.inr rfl) (h2 c1)
theorem sg_R_readTold_1_120 {Q : Option Value → Mem → Prop} (M : Mem) (x1 x2 x3 r : Int32)
    (h1 : r = 0 → Q (some (.int 0)) M)
    (h2 : ¬ r = 0 → Q (some (.int 1)) M) :
    WX mi_R_readTold 5 Q 120 [some (.ref 1), some (.int x1), some (.int x2), some (.int x3)] [.int r] M := by
  refine WX.if_eq (off := 7) (tgt := 127) rfl rfl (fun c1 => ?_) (fun c1 => ?_)
  · refine WX.run (pc' := 128) (L' := [some (.ref 1), some (.int x1), some (.int x2), some (.int x3)]) (st' := [.int 0]) (M' := M) (P := True) 1 rfl trivial ?_
    exact WX.zret rfl rfl (Or.inl rfl) (h1 c1)
  · refine WX.run (pc' := 128) (L' := [some (.ref 1), some (.int x1), some (.int x2), some (.int x3)]) (st' := [.int 1]) (M' := M) (P := True) 2 rfl trivial ?_
    exact WX.zret rfl rfl (Or.inr rfl) (h2 c1)
theorem sg_R_readTold_1_173 {Q : Option Value → Mem → Prop} (M : Mem) (x1 x2 x3 r : Int32)
    (h1 : r = 0 → Q (some (.int 0)) M)
    (h2 : ¬ r = 0 → Q (some (.int 1)) M) :
    WX mi_R_readTold 5 Q 173 [some (.ref 1), some (.int x1), some (.int x2), some (.int x3)] [.int r] M := by
  refine WX.if_eq (off := 7) (tgt := 180) rfl rfl (fun c1 => ?_) (fun c1 => ?_)
  · refine WX.run (pc' := 181) (L' := [some (.ref 1), some (.int x1), some (.int x2), some (.int x3)]) (st' := [.int 0]) (M' := M) (P := True) 1 rfl trivial ?_
    exact WX.zret rfl rfl (Or.inl rfl) (h1 c1)
  · refine WX.run (pc' := 181) (L' := [some (.ref 1), some (.int x1), some (.int x2), some (.int x3)]) (st' := [.int 1]) (M' := M) (P := True) 2 rfl trivial ?_
    exact WX.zret rfl rfl (Or.inr rfl) (h2 c1)
theorem sg_R_readTold_1_198 {Q : Option Value → Mem → Prop} (M : Mem) (x1 x2 x3 r : Int32)
    (h1 : r = 0 → Q (some (.int 0)) M)
    (h2 : ¬ r = 0 → Q (some (.int 1)) M) :
    WX mi_R_readTold 5 Q 198 [some (.ref 1), some (.int x1), some (.int x2), some (.int x3)] [.int r] M := by
  refine WX.if_eq (off := 7) (tgt := 205) rfl rfl (fun c1 => ?_) (fun c1 => ?_)
  · refine WX.run (pc' := 206) (L' := [some (.ref 1), some (.int x1), some (.int x2), some (.int x3)]) (st' := [.int 0]) (M' := M) (P := True) 1 rfl trivial ?_
    exact WX.zret rfl rfl (Or.inl rfl) (h1 c1)
  · refine WX.run (pc' := 206) (L' := [some (.ref 1), some (.int x1), some (.int x2), some (.int x3)]) (st' := [.int 1]) (M' := M) (P := True) 2 rfl trivial ?_
    exact WX.zret rfl rfl (Or.inr rfl) (h2 c1)
theorem sg_R_readTold_1_155 {Q : Option Value → Mem → Prop} (M : Mem) (x1 x2 x3 r : Int32)
    (h1 : r = 0 → Q (some (.int 0)) M)
    (h2 : ¬ r = 0 → Q (some (.int 1)) M) :
    WX mi_R_readTold 5 Q 155 [some (.ref 1), some (.int x1), some (.int x2), some (.int x3)] [.int r] M := by
  refine WX.if_eq (off := 7) (tgt := 162) rfl rfl (fun c1 => ?_) (fun c1 => ?_)
  · refine WX.run (pc' := 163) (L' := [some (.ref 1), some (.int x1), some (.int x2), some (.int x3)]) (st' := [.int 0]) (M' := M) (P := True) 1 rfl trivial ?_
    exact WX.zret rfl rfl (Or.inl rfl) (h1 c1)
  · refine WX.run (pc' := 163) (L' := [some (.ref 1), some (.int x1), some (.int x2), some (.int x3)]) (st' := [.int 1]) (M' := M) (P := True) 2 rfl trivial ?_
    exact WX.zret rfl rfl (Or.inr rfl) (h2 c1)
theorem sg_R_readAll_1_0 {Q : Option Value → Mem → Prop} (M : Mem)
    (h1 : WX mi_L_wipe 1 (fun rv M' => WX mi_R_readAll 6 Q 7 [some (.ref 1), none] (rv.toList ++ []) M') 0 [some (.ref 3), none] [] M) :
    WX mi_R_readAll 6 Q 0 [some (.ref 1), none] [] M := by
  refine WX.run (pc' := 4) (L' := [some (.ref 1), none]) (st' := [.ref 3]) (M' := M) (P := True) 2 rfl trivial ?_
  refine WX.callV (ca := mi_L_wipe) (n := 0) (d' := 1) (st := []) (As := []) (q := 3) rfl lk_4_26 ck_L_wipe cv_L_wipe rfl (by decide) rfl (Nat.le_of_ble_eq_true rfl) ⟨by decide, rfl, by decide⟩ (fun w hw => absurd hw List.not_mem_nil) (Nat.le_of_ble_eq_true rfl) ?_
  exact h1
theorem sg_R_readAll_1_7 {Q : Option Value → Mem → Prop} (M : Mem)
    (h1 : WX mi_R_readAll 6 Q 29 [some (.ref 1), some (.int 0)] [] (wr (wr (wr (wr M 1 3 0) 1 7 0) 1 8 0) 1 9 0)) :
    WX mi_R_readAll 6 Q 7 [some (.ref 1), none] [] M := by
  refine WX.run (pc' := 29) (L' := [some (.ref 1), some (.int 0)]) (st' := []) (M' := (wr (wr (wr (wr M 1 3 0) 1 7 0) 1 8 0) 1 9 0)) (P := (((True ∧ (0 = 0 ∨ 0 = 1)) ∧ (0 = 0 ∨ 0 = 1)) ∧ (0 = 0 ∨ 0 = 1))) 14 rfl ⟨⟨⟨trivial, (Or.inl rfl)⟩, (Or.inl rfl)⟩, (Or.inl rfl)⟩ ?_
  exact h1
theorem sg_R_readAll_1_29 {Q : Option Value → Mem → Prop} (M : Mem) (x1 : Int32)
    (h1 : 150 ≤ x1 → Q (some (.int ((-10) - (M.1 1 1)))) M)
    (h2 : ¬ 150 ≤ x1 → WX mi_R_readToken 2 (fun rv M' => WX mi_R_readAll 6 Q 40 [some (.ref 1), some (.int x1)] (rv.toList ++ []) M') 0 [some (.ref 1), none, none, none] [] M) :
    WX mi_R_readAll 6 Q 29 [some (.ref 1), some (.int x1)] [] M := by
  refine WX.run (pc' := 33) (L' := [some (.ref 1), some (.int x1)]) (st' := [.int 150, .int x1]) (M' := M) (P := True) 2 rfl trivial ?_
  refine WX.icmp_ge (off := 70) (tgt := 103) rfl rfl (fun c1 => ?_) (fun c1 => ?_)
  · refine WX.run (pc' := 110) (L' := [some (.ref 1), some (.int x1)]) (st' := [.int ((-10) - (M.1 1 1))]) (M' := M) (P := True) 4 rfl trivial ?_
    exact WX.iret rfl rfl (h1 c1)
  · refine WX.run (pc' := 37) (L' := [some (.ref 1), some (.int x1)]) (st' := [.ref 1]) (M' := M) (P := True) 1 rfl trivial ?_
    refine WX.callV (ca := mi_R_readToken) (n := 0) (d' := 2) (st := []) (As := []) (q := 1) rfl lk_4_42 ck_R_readToken cv_R_readToken rfl (by decide) rfl (Nat.le_of_ble_eq_true rfl) ⟨by decide, rfl, by decide⟩ (fun w hw => absurd hw List.not_mem_nil) (Nat.le_of_ble_eq_true rfl) ?_
    exact (h2 c1)
theorem sg_R_readAll_1_40 {Q : Option Value → Mem → Prop} (M : Mem) (x1 : Int32)
    (h1 : ¬ (M.1 1 5) = 0 → ¬ (M.1 1 5) = 1 → Q (some (.int ((-10) - (M.1 1 4)))) M)
    (h2 : ¬ (M.1 1 5) = 0 → (M.1 1 5) = 1 → WX mi_R_readTold 5 (fun rv M' => WX mi_R_readAll 6 Q 66 [some (.ref 1), some (.int x1)] (rv.toList ++ []) M') 0 [some (.ref 1), some (.int (M.1 1 6)), some (.int x1), none] [] M)
    (h3 : (M.1 1 5) = 0 → Q (some (.int x1)) M) :
    WX mi_R_readAll 6 Q 40 [some (.ref 1), some (.int x1)] [] M := by
  refine WX.run (pc' := 44) (L' := [some (.ref 1), some (.int x1)]) (st' := [.int (M.1 1 5)]) (M' := M) (P := True) 2 rfl trivial ?_
  refine WX.if_ne (off := 5) (tgt := 49) rfl rfl (fun c1 => ?_) (fun c1 => ?_)
  · refine WX.run (pc' := 54) (L' := [some (.ref 1), some (.int x1)]) (st' := [.int 1, .int (M.1 1 5)]) (M' := M) (P := True) 3 rfl trivial ?_
    refine WX.icmp_ne (off := 15) (tgt := 69) rfl rfl (fun c2 => ?_) (fun c2 => ?_)
    · refine WX.run (pc' := 76) (L' := [some (.ref 1), some (.int x1)]) (st' := [.int ((-10) - (M.1 1 4))]) (M' := M) (P := True) 4 rfl trivial ?_
      exact WX.iret rfl rfl (h1 c1 c2)
    · refine WX.run (pc' := 63) (L' := [some (.ref 1), some (.int x1)]) (st' := [.int x1, .int (M.1 1 6), .ref 1]) (M' := M) (P := True) 4 rfl trivial ?_
      refine WX.callV (ca := mi_R_readTold) (n := 2) (d' := 5) (st := []) (As := [.int (M.1 1 6), .int x1]) (q := 1) rfl lk_4_51 ck_R_readTold cv_R_readTold rfl (by decide) rfl (Nat.le_of_ble_eq_true rfl) ⟨by decide, rfl, by decide⟩ (by intro w hw; simp only [List.mem_cons, List.not_mem_nil, or_false] at hw; rcases hw with rfl | rfl <;> rfl) (Nat.le_of_ble_eq_true rfl) ?_
      exact (h2 c1 c2)
  · refine WX.run (pc' := 48) (L' := [some (.ref 1), some (.int x1)]) (st' := [.int x1]) (M' := M) (P := True) 1 rfl trivial ?_
    exact WX.iret rfl rfl (h3 c1)
theorem sg_R_readAll_1_66 {Q : Option Value → Mem → Prop} (M : Mem) (x1 r : Int32)
    (h1 : ¬ r = 0 → WX mi_R_readToken 2 (fun rv M' => WX mi_R_readAll 6 Q 81 [some (.ref 1), some (.int x1)] (rv.toList ++ []) M') 0 [some (.ref 1), none, none, none] [] M)
    (h2 : r = 0 → Q (some (.int ((-10) - (M.1 1 4)))) M) :
    WX mi_R_readAll 6 Q 66 [some (.ref 1), some (.int x1)] [.int r] M := by
  refine WX.if_ne (off := 11) (tgt := 77) rfl rfl (fun c1 => ?_) (fun c1 => ?_)
  · refine WX.run (pc' := 78) (L' := [some (.ref 1), some (.int x1)]) (st' := [.ref 1]) (M' := M) (P := True) 1 rfl trivial ?_
    refine WX.callV (ca := mi_R_readToken) (n := 0) (d' := 2) (st := []) (As := []) (q := 1) rfl lk_4_42 ck_R_readToken cv_R_readToken rfl (by decide) rfl (Nat.le_of_ble_eq_true rfl) ⟨by decide, rfl, by decide⟩ (fun w hw => absurd hw List.not_mem_nil) (Nat.le_of_ble_eq_true rfl) ?_
    exact (h1 c1)
  · refine WX.run (pc' := 76) (L' := [some (.ref 1), some (.int x1)]) (st' := [.int ((-10) - (M.1 1 4))]) (M' := M) (P := True) 4 rfl trivial ?_
    exact WX.iret rfl rfl (h2 c1)
theorem sg_R_readAll_1_81 {Q : Option Value → Mem → Prop} (M : Mem) (x1 : Int32)
    (h1 : (M.1 1 5) = 3 → WX mi_R_readAll 6 Q 29 [some (.ref 1), some (.int (x1 + 1))] [] M)
    (h2 : ¬ (M.1 1 5) = 3 → Q (some (.int ((-10) - (M.1 1 4)))) M) :
    WX mi_R_readAll 6 Q 81 [some (.ref 1), some (.int x1)] [] M := by
  refine WX.run (pc' := 86) (L' := [some (.ref 1), some (.int x1)]) (st' := [.int 3, .int (M.1 1 5)]) (M' := M) (P := True) 3 rfl trivial ?_
  refine WX.icmp_eq (off := 11) (tgt := 97) rfl rfl (fun c1 => ?_) (fun c1 => ?_)
  · refine WX.run (pc' := 29) (L' := [some (.ref 1), some (.int (x1 + 1))]) (st' := []) (M' := M) (P := True) 2 rfl trivial ?_
    exact (h1 c1)
  · refine WX.run (pc' := 96) (L' := [some (.ref 1), some (.int x1)]) (st' := [.int ((-10) - (M.1 1 4))]) (M' := M) (P := True) 4 rfl trivial ?_
    exact WX.iret rfl rfl (h2 c1)
