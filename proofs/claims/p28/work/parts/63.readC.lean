/-! ===== yard: the class's readAll; printed by wip/gen/p63.py ===== -/
theorem told_w {d : Dr} {M : Mem} (hw : WfD d) (hd : RDc d M) : (M.1 3 0 ≤ 0 ↔ ¬ 0 < pW d.1) ∧ (4 ≤ M.1 3 1 ↔ ¬ pR d.1 < 4) ∧ (M.1 1 7 = 0 ↔ d.2.2.2.1 = false) ∧ (M.1 1 8 = 0 ↔ d.2.2.2.2.1 = false) ∧ (M.1 1 9 = 0 ↔ d.2.2.2.2.2 = false) := by
  have h1 := hw.1.1
  have h2 := hw.1.2.1
  refine ⟨?_, ?_, ?_, ?_, ?_⟩
  · rw [hd.1.1, nI_le0 (by omega)]; omega
  · rw [hd.1.2.1]
    refine (nI_le_iff (a := 4) (by decide) (by omega)).trans ?_
    omega
  · rw [hd.2.2.2.1, bI_0]
  · rw [hd.2.2.2.2.1, bI_0]
  · rw [hd.2.2.2.2.2, bI_0]
theorem told_100 {t : List Nat} (ht : Txt t) {i P S0 : Nat} {d : Dr} {M : Mem} {Q : Option Value → Mem → Prop} (hw : WfD d) (hi : i < 1000) (hr : RCt t M) (m3 : M.1 1 3 = nI P) (m4 : M.1 1 4 = nI S0) (hP : P ≤ t.length) (hd : RDc d M) (hQ : OutC Q M (if mayF 100 i d = true then itmF t 100 P d else .inl S0)) : WX mi_R_readTold 5 Q 0 [some (.ref 1), some (.int (nI 100)), some (.int (nI i)), none] [] M := by
  obtain ⟨tW, tR, t7, t8, t9⟩ := told_w hw hd
  have ti : nI i = 0 ↔ i = 0 := nI_is0 (by omega)
  have E100 : nI 100 = 100 := rfl
  have E108 : ¬ nI 100 = 108 := by decide
  have E111 : ¬ nI 100 = 111 := by decide
  have E114 : ¬ nI 100 = 114 := by decide
  have E115 : ¬ nI 100 = 115 := by decide
  have E119 : ¬ nI 100 = 119 := by decide
  by_cases hm : mayF 100 i d = true
  · rw [if_pos hm] at hQ
    have hQ : OutC Q M (celF t 100 P d) := hQ
    have K : ∀ y : Int32, WX mi_R_readCell 4 (fun rv M' => WX mi_R_readTold 5 Q 173 [some (.ref 1), some (.int (nI 100)), some (.int (nI i)), some (.int y)] (rv.toList ++ []) M') 0 [some (.ref 1), some (.int (nI 100)), none, none] [] M := fun y => cel_C ht (by decide) hw.1.1 hw.1.2.1 hr m3 hP hd ⟨fun e M1 a b f => sg_R_readTold_1_173 M1 _ _ _ _ (fun _ => hQ.1 e M1 a b f) (fun q => absurd rfl q), fun P1 d1 M1 a b f g => sg_R_readTold_1_173 M1 _ _ _ _ (fun q => absurd q (by decide)) (fun _ => hQ.2 P1 d1 M1 a b f g)⟩
    have hm' : decide (0 < pW d.1) = true := hm
    have F1 : ¬ M.1 3 0 ≤ 0 := fun q => tW.mp q (by simpa using hm')
    refine sg_R_readTold_1_0 M _ _ ?_ ?_ ?_ ?_ ?_ ?_ ?_ ?_ ?_ ?_ ?_ ?_ ?_ ?_ ?_ ?_ ?_ ?_ ?_ ?_ ?_
    all_goals intros
    all_goals first | with_reducible exact absurd E100 (by assumption) | with_reducible exact absurd (by assumption) E108 | with_reducible exact absurd (by assumption) E111 | with_reducible exact absurd (by assumption) E114 | with_reducible exact absurd (by assumption) E115 | with_reducible exact absurd (by assumption) E119 | with_reducible exact absurd (by assumption) F1 | with_reducible exact K _
  · rw [if_neg hm] at hQ
    have K := hQ.1 S0 M rfl m4 (FD.refl M)
    have F1 : M.1 3 0 ≤ 0 := tW.mpr (fun q => hm (show decide (0 < pW d.1) = true from decide_eq_true q))
    refine sg_R_readTold_1_0 M _ _ ?_ ?_ ?_ ?_ ?_ ?_ ?_ ?_ ?_ ?_ ?_ ?_ ?_ ?_ ?_ ?_ ?_ ?_ ?_ ?_ ?_
    all_goals intros
    all_goals first | with_reducible exact absurd E100 (by assumption) | with_reducible exact absurd (by assumption) E108 | with_reducible exact absurd (by assumption) E111 | with_reducible exact absurd (by assumption) E114 | with_reducible exact absurd (by assumption) E115 | with_reducible exact absurd (by assumption) E119 | with_reducible exact K | with_reducible exact absurd F1 (by assumption)
theorem told_108 {t : List Nat} (ht : Txt t) {i P S0 : Nat} {d : Dr} {M : Mem} {Q : Option Value → Mem → Prop} (hw : WfD d) (hi : i < 1000) (hr : RCt t M) (m3 : M.1 1 3 = nI P) (m4 : M.1 1 4 = nI S0) (hP : P ≤ t.length) (hd : RDc d M) (hQ : OutC Q M (if mayF 108 i d = true then itmF t 108 P d else .inl S0)) : WX mi_R_readTold 5 Q 0 [some (.ref 1), some (.int (nI 108)), some (.int (nI i)), none] [] M := by
  obtain ⟨tW, tR, t7, t8, t9⟩ := told_w hw hd
  have ti : nI i = 0 ↔ i = 0 := nI_is0 (by omega)
  have E100 : ¬ nI 108 = 100 := by decide
  have E108 : nI 108 = 108 := rfl
  have E111 : ¬ nI 108 = 111 := by decide
  have E114 : ¬ nI 108 = 114 := by decide
  have E115 : ¬ nI 108 = 115 := by decide
  have E119 : ¬ nI 108 = 119 := by decide
  by_cases hm : mayF 108 i d = true
  · rw [if_pos hm] at hQ
    have hQ : OutC Q M (celF t 108 P d) := hQ
    have K : ∀ y : Int32, WX mi_R_readCell 4 (fun rv M' => WX mi_R_readTold 5 Q 173 [some (.ref 1), some (.int (nI 108)), some (.int (nI i)), some (.int y)] (rv.toList ++ []) M') 0 [some (.ref 1), some (.int (nI 108)), none, none] [] M := fun y => cel_C ht (by decide) hw.1.1 hw.1.2.1 hr m3 hP hd ⟨fun e M1 a b f => sg_R_readTold_1_173 M1 _ _ _ _ (fun _ => hQ.1 e M1 a b f) (fun q => absurd rfl q), fun P1 d1 M1 a b f g => sg_R_readTold_1_173 M1 _ _ _ _ (fun q => absurd q (by decide)) (fun _ => hQ.2 P1 d1 M1 a b f g)⟩
    have hm' : decide (0 < pW d.1) = true := hm
    have F1 : ¬ M.1 3 0 ≤ 0 := fun q => tW.mp q (by simpa using hm')
    refine sg_R_readTold_1_0 M _ _ ?_ ?_ ?_ ?_ ?_ ?_ ?_ ?_ ?_ ?_ ?_ ?_ ?_ ?_ ?_ ?_ ?_ ?_ ?_ ?_ ?_
    all_goals intros
    all_goals first | with_reducible exact absurd (by assumption) E100 | with_reducible exact absurd E108 (by assumption) | with_reducible exact absurd (by assumption) E111 | with_reducible exact absurd (by assumption) E114 | with_reducible exact absurd (by assumption) E115 | with_reducible exact absurd (by assumption) E119 | with_reducible exact absurd (by assumption) F1 | with_reducible exact K _
  · rw [if_neg hm] at hQ
    have K := hQ.1 S0 M rfl m4 (FD.refl M)
    have F1 : M.1 3 0 ≤ 0 := tW.mpr (fun q => hm (show decide (0 < pW d.1) = true from decide_eq_true q))
    refine sg_R_readTold_1_0 M _ _ ?_ ?_ ?_ ?_ ?_ ?_ ?_ ?_ ?_ ?_ ?_ ?_ ?_ ?_ ?_ ?_ ?_ ?_ ?_ ?_ ?_
    all_goals intros
    all_goals first | with_reducible exact absurd (by assumption) E100 | with_reducible exact absurd E108 (by assumption) | with_reducible exact absurd (by assumption) E111 | with_reducible exact absurd (by assumption) E114 | with_reducible exact absurd (by assumption) E115 | with_reducible exact absurd (by assumption) E119 | with_reducible exact K | with_reducible exact absurd F1 (by assumption)
theorem told_111 {t : List Nat} (ht : Txt t) {i P S0 : Nat} {d : Dr} {M : Mem} {Q : Option Value → Mem → Prop} (hw : WfD d) (hi : i < 1000) (hr : RCt t M) (m3 : M.1 1 3 = nI P) (m4 : M.1 1 4 = nI S0) (hP : P ≤ t.length) (hd : RDc d M) (hQ : OutC Q M (if mayF 111 i d = true then itmF t 111 P d else .inl S0)) : WX mi_R_readTold 5 Q 0 [some (.ref 1), some (.int (nI 111)), some (.int (nI i)), none] [] M := by
  obtain ⟨tW, tR, t7, t8, t9⟩ := told_w hw hd
  have ti : nI i = 0 ↔ i = 0 := nI_is0 (by omega)
  have E100 : ¬ nI 111 = 100 := by decide
  have E108 : ¬ nI 111 = 108 := by decide
  have E111 : nI 111 = 111 := rfl
  have E114 : ¬ nI 111 = 114 := by decide
  have E115 : ¬ nI 111 = 115 := by decide
  have E119 : ¬ nI 111 = 119 := by decide
  by_cases hm : mayF 111 i d = true
  · rw [if_pos hm] at hQ
    have hQ : OutC Q M (celF t 111 P d) := hQ
    have K : ∀ y : Int32, WX mi_R_readCell 4 (fun rv M' => WX mi_R_readTold 5 Q 198 [some (.ref 1), some (.int (nI 111)), some (.int (nI i)), some (.int y)] (rv.toList ++ []) M') 0 [some (.ref 1), some (.int (nI 111)), none, none] [] M := fun y => cel_C ht (by decide) hw.1.1 hw.1.2.1 hr m3 hP hd ⟨fun e M1 a b f => sg_R_readTold_1_198 M1 _ _ _ _ (fun _ => hQ.1 e M1 a b f) (fun q => absurd rfl q), fun P1 d1 M1 a b f g => sg_R_readTold_1_198 M1 _ _ _ _ (fun q => absurd q (by decide)) (fun _ => hQ.2 P1 d1 M1 a b f g)⟩
    have hm' : (decide (0 < pW d.1) && !d.2.2.2.1) = true := hm
    rw [Bool.and_eq_true, decide_eq_true_eq, Bool.not_eq_true'] at hm'
    have F1 : ¬ M.1 3 0 ≤ 0 := fun q => tW.mp q hm'.1
    have F2 : M.1 1 7 = 0 := t7.mpr hm'.2
    refine sg_R_readTold_1_0 M _ _ ?_ ?_ ?_ ?_ ?_ ?_ ?_ ?_ ?_ ?_ ?_ ?_ ?_ ?_ ?_ ?_ ?_ ?_ ?_ ?_ ?_
    all_goals intros
    all_goals first | with_reducible exact absurd (by assumption) E100 | with_reducible exact absurd (by assumption) E108 | with_reducible exact absurd E111 (by assumption) | with_reducible exact absurd (by assumption) E114 | with_reducible exact absurd (by assumption) E115 | with_reducible exact absurd (by assumption) E119 | with_reducible exact absurd (by assumption) F1 | with_reducible exact absurd F2 (by assumption) | with_reducible exact K _
  · rw [if_neg hm] at hQ
    have K := hQ.1 S0 M rfl m4 (FD.refl M)
    have F1 : ¬ M.1 3 0 ≤ 0 → M.1 1 7 = 0 → False := fun a b => hm (show (decide (0 < pW d.1) && !d.2.2.2.1) = true by rw [decide_eq_true (Decidable.not_not.mp (fun q => a (tW.mpr q))), t7.mp b]; rfl)
    refine sg_R_readTold_1_0 M _ _ ?_ ?_ ?_ ?_ ?_ ?_ ?_ ?_ ?_ ?_ ?_ ?_ ?_ ?_ ?_ ?_ ?_ ?_ ?_ ?_ ?_
    all_goals intros
    all_goals first | with_reducible exact absurd (by assumption) E100 | with_reducible exact absurd (by assumption) E108 | with_reducible exact absurd E111 (by assumption) | with_reducible exact absurd (by assumption) E114 | with_reducible exact absurd (by assumption) E115 | with_reducible exact absurd (by assumption) E119 | with_reducible exact K | with_reducible exact (F1 (by assumption) (by assumption)).elim
theorem told_114 {t : List Nat} (ht : Txt t) {i P S0 : Nat} {d : Dr} {M : Mem} {Q : Option Value → Mem → Prop} (hw : WfD d) (hi : i < 1000) (hr : RCt t M) (m3 : M.1 1 3 = nI P) (m4 : M.1 1 4 = nI S0) (hP : P ≤ t.length) (hd : RDc d M) (hQ : OutC Q M (if mayF 114 i d = true then itmF t 114 P d else .inl S0)) : WX mi_R_readTold 5 Q 0 [some (.ref 1), some (.int (nI 114)), some (.int (nI i)), none] [] M := by
  obtain ⟨tW, tR, t7, t8, t9⟩ := told_w hw hd
  have ti : nI i = 0 ↔ i = 0 := nI_is0 (by omega)
  have E100 : ¬ nI 114 = 100 := by decide
  have E108 : ¬ nI 114 = 108 := by decide
  have E111 : ¬ nI 114 = 111 := by decide
  have E114 : nI 114 = 114 := rfl
  have E115 : ¬ nI 114 = 115 := by decide
  have E119 : ¬ nI 114 = 119 := by decide
  by_cases hm : mayF 114 i d = true
  · rw [if_pos hm] at hQ
    have hQ : OutC Q M (rwsF t P d) := hQ
    have K : ∀ y : Int32, WX mi_R_readRow 4 (fun rv M' => WX mi_R_readTold 5 Q 155 [some (.ref 1), some (.int (nI 114)), some (.int (nI i)), some (.int y)] (rv.toList ++ []) M') 0 [some (.ref 1), none, none] [] M := fun y => sg_R_readRow_1_0 M (row_C ht hw.1.1 (may_r hm).2.2 P (pW d.1) 0 P d.2.1 M (Nat.zero_add _) hP hr m3 hd (FD.refl M) rfl ⟨fun e M1 a b f => sg_R_readTold_1_155 M1 _ _ _ _ (fun _ => hQ.1 e M1 a b f) (fun q => absurd rfl q), fun P1 d1 M1 a b f g => sg_R_readTold_1_155 M1 _ _ _ _ (fun q => absurd q (by decide)) (fun _ => hQ.2 P1 d1 M1 a b f g)⟩)
    have F1 : ¬ M.1 3 0 ≤ 0 := fun q => tW.mp q (may_r hm).1
    have F2 : M.1 1 9 = 0 := t9.mpr (may_r hm).2.1
    have F3 : ¬ 4 ≤ M.1 3 1 := fun q => tR.mp q (may_r hm).2.2
    refine sg_R_readTold_1_0 M _ _ ?_ ?_ ?_ ?_ ?_ ?_ ?_ ?_ ?_ ?_ ?_ ?_ ?_ ?_ ?_ ?_ ?_ ?_ ?_ ?_ ?_
    all_goals intros
    all_goals first | with_reducible exact absurd (by assumption) E100 | with_reducible exact absurd (by assumption) E108 | with_reducible exact absurd (by assumption) E111 | with_reducible exact absurd E114 (by assumption) | with_reducible exact absurd (by assumption) E115 | with_reducible exact absurd (by assumption) E119 | with_reducible exact absurd (by assumption) F1 | with_reducible exact absurd F2 (by assumption) | with_reducible exact absurd (by assumption) F3 | with_reducible exact K _
  · rw [if_neg hm] at hQ
    have K := hQ.1 S0 M rfl m4 (FD.refl M)
    have F1 : ¬ M.1 3 0 ≤ 0 → M.1 1 9 = 0 → ¬ 4 ≤ M.1 3 1 → False := fun a b e => hm (show (decide (0 < pW d.1) && !d.2.2.2.2.2 && decide (pR d.1 < 4)) = true by rw [decide_eq_true (Decidable.not_not.mp (fun q => a (tW.mpr q))), t9.mp b, decide_eq_true (Decidable.not_not.mp (fun q => e (tR.mpr q)))]; rfl)
    refine sg_R_readTold_1_0 M _ _ ?_ ?_ ?_ ?_ ?_ ?_ ?_ ?_ ?_ ?_ ?_ ?_ ?_ ?_ ?_ ?_ ?_ ?_ ?_ ?_ ?_
    all_goals intros
    all_goals first | with_reducible exact absurd (by assumption) E100 | with_reducible exact absurd (by assumption) E108 | with_reducible exact absurd (by assumption) E111 | with_reducible exact absurd E114 (by assumption) | with_reducible exact absurd (by assumption) E115 | with_reducible exact absurd (by assumption) E119 | with_reducible exact K | with_reducible exact (F1 (by assumption) (by assumption) (by assumption)).elim
theorem told_115 {t : List Nat} (ht : Txt t) {i P S0 : Nat} {d : Dr} {M : Mem} {Q : Option Value → Mem → Prop} (hw : WfD d) (hi : i < 1000) (hr : RCt t M) (m3 : M.1 1 3 = nI P) (m4 : M.1 1 4 = nI S0) (hP : P ≤ t.length) (hd : RDc d M) (hQ : OutC Q M (if mayF 115 i d = true then itmF t 115 P d else .inl S0)) : WX mi_R_readTold 5 Q 0 [some (.ref 1), some (.int (nI 115)), some (.int (nI i)), none] [] M := by
  obtain ⟨tW, tR, t7, t8, t9⟩ := told_w hw hd
  have ti : nI i = 0 ↔ i = 0 := nI_is0 (by omega)
  have E100 : ¬ nI 115 = 100 := by decide
  have E108 : ¬ nI 115 = 108 := by decide
  have E111 : ¬ nI 115 = 111 := by decide
  have E114 : ¬ nI 115 = 114 := by decide
  have E115 : nI 115 = 115 := rfl
  have E119 : ¬ nI 115 = 119 := by decide
  by_cases hm : mayF 115 i d = true
  · rw [if_pos hm] at hQ
    have hQ : OutC Q M (stkF t P d) := hQ
    have K : ∀ y : Int32, WX mi_R_readStock 4 (fun rv M' => WX mi_R_readTold 5 Q 218 [some (.ref 1), some (.int (nI 115)), some (.int (nI i)), some (.int y)] (rv.toList ++ []) M') 0 [some (.ref 1), none] [] M := fun y => sg_R_readStock_1_0 M (sto_C ht P 4 0 P d.2.2.1 M rfl hP hr m3 hd (FD.refl M) rfl ⟨fun e M1 a b f => sg_R_readTold_1_218 M1 _ _ _ _ (fun _ => hQ.1 e M1 a b f) (fun q => absurd rfl q), fun P1 d1 M1 a b f g => sg_R_readTold_1_218 M1 _ _ _ _ (fun q => absurd q (by decide)) (fun _ => hQ.2 P1 d1 M1 a b f g)⟩)
    have hm' : (!d.2.2.2.2.1) = true := hm
    have F1 : M.1 1 8 = 0 := t8.mpr (by simpa using hm')
    refine sg_R_readTold_1_0 M _ _ ?_ ?_ ?_ ?_ ?_ ?_ ?_ ?_ ?_ ?_ ?_ ?_ ?_ ?_ ?_ ?_ ?_ ?_ ?_ ?_ ?_
    all_goals intros
    all_goals first | with_reducible exact absurd (by assumption) E100 | with_reducible exact absurd (by assumption) E108 | with_reducible exact absurd (by assumption) E111 | with_reducible exact absurd (by assumption) E114 | with_reducible exact absurd E115 (by assumption) | with_reducible exact absurd (by assumption) E119 | with_reducible exact absurd F1 (by assumption) | with_reducible exact K _
  · rw [if_neg hm] at hQ
    have K := hQ.1 S0 M rfl m4 (FD.refl M)
    have F1 : ¬ M.1 1 8 = 0 := fun q => hm (show (!d.2.2.2.2.1) = true by rw [t8.mp q]; rfl)
    refine sg_R_readTold_1_0 M _ _ ?_ ?_ ?_ ?_ ?_ ?_ ?_ ?_ ?_ ?_ ?_ ?_ ?_ ?_ ?_ ?_ ?_ ?_ ?_ ?_ ?_
    all_goals intros
    all_goals first | with_reducible exact absurd (by assumption) E100 | with_reducible exact absurd (by assumption) E108 | with_reducible exact absurd (by assumption) E111 | with_reducible exact absurd (by assumption) E114 | with_reducible exact absurd E115 (by assumption) | with_reducible exact absurd (by assumption) E119 | with_reducible exact K | with_reducible exact absurd (by assumption) F1
theorem told_119 {t : List Nat} (ht : Txt t) {i P S0 : Nat} {d : Dr} {M : Mem} {Q : Option Value → Mem → Prop} (hw : WfD d) (hi : i < 1000) (hr : RCt t M) (m3 : M.1 1 3 = nI P) (m4 : M.1 1 4 = nI S0) (hP : P ≤ t.length) (hd : RDc d M) (hQ : OutC Q M (if mayF 119 i d = true then itmF t 119 P d else .inl S0)) : WX mi_R_readTold 5 Q 0 [some (.ref 1), some (.int (nI 119)), some (.int (nI i)), none] [] M := by
  obtain ⟨tW, tR, t7, t8, t9⟩ := told_w hw hd
  have ti : nI i = 0 ↔ i = 0 := nI_is0 (by omega)
  have E100 : ¬ nI 119 = 100 := by decide
  have E108 : ¬ nI 119 = 108 := by decide
  have E111 : ¬ nI 119 = 111 := by decide
  have E114 : ¬ nI 119 = 114 := by decide
  have E115 : ¬ nI 119 = 115 := by decide
  have E119 : nI 119 = 119 := rfl
  by_cases hm : mayF 119 i d = true
  · rw [if_pos hm] at hQ
    have hQ : OutC Q M (widF t P d) := hQ
    have K : ∀ y : Int32, WX mi_R_readWide 4 (fun rv M' => WX mi_R_readTold 5 Q 120 [some (.ref 1), some (.int (nI 119)), some (.int (nI i)), some (.int y)] (rv.toList ++ []) M') 0 [some (.ref 1)] [] M := fun y => wdr_C ht hr m3 hP hd ⟨fun e M1 a b f => sg_R_readTold_1_120 M1 _ _ _ _ (fun _ => hQ.1 e M1 a b f) (fun q => absurd rfl q), fun P1 d1 M1 a b f g => sg_R_readTold_1_120 M1 _ _ _ _ (fun q => absurd q (by decide)) (fun _ => hQ.2 P1 d1 M1 a b f g)⟩
    have hm' : decide (i = 0) = true := hm
    have F1 : nI i = 0 := ti.mpr (by simpa using hm')
    refine sg_R_readTold_1_0 M _ _ ?_ ?_ ?_ ?_ ?_ ?_ ?_ ?_ ?_ ?_ ?_ ?_ ?_ ?_ ?_ ?_ ?_ ?_ ?_ ?_ ?_
    all_goals intros
    all_goals first | with_reducible exact absurd (by assumption) E100 | with_reducible exact absurd (by assumption) E108 | with_reducible exact absurd (by assumption) E111 | with_reducible exact absurd (by assumption) E114 | with_reducible exact absurd (by assumption) E115 | with_reducible exact absurd E119 (by assumption) | with_reducible exact absurd F1 (by assumption) | with_reducible exact K _
  · rw [if_neg hm] at hQ
    have K := hQ.1 S0 M rfl m4 (FD.refl M)
    have F1 : ¬ nI i = 0 := fun q => hm (show decide (i = 0) = true from decide_eq_true (ti.mp q))
    refine sg_R_readTold_1_0 M _ _ ?_ ?_ ?_ ?_ ?_ ?_ ?_ ?_ ?_ ?_ ?_ ?_ ?_ ?_ ?_ ?_ ?_ ?_ ?_ ?_ ?_
    all_goals intros
    all_goals first | with_reducible exact absurd (by assumption) E100 | with_reducible exact absurd (by assumption) E108 | with_reducible exact absurd (by assumption) E111 | with_reducible exact absurd (by assumption) E114 | with_reducible exact absurd (by assumption) E115 | with_reducible exact absurd E119 (by assumption) | with_reducible exact K | with_reducible exact absurd (by assumption) F1
theorem told_x {i : Nat} {x : Int32} {M : Mem} {Q : Option Value → Mem → Prop} (E100 : ¬ x = 100) (E108 : ¬ x = 108) (E111 : ¬ x = 111) (E114 : ¬ x = 114) (E115 : ¬ x = 115) (E119 : ¬ x = 119) (K : Q (some (.int 0)) M) : WX mi_R_readTold 5 Q 0 [some (.ref 1), some (.int x), some (.int (nI i)), none] [] M := by
  refine sg_R_readTold_1_0 M _ _ ?_ ?_ ?_ ?_ ?_ ?_ ?_ ?_ ?_ ?_ ?_ ?_ ?_ ?_ ?_ ?_ ?_ ?_ ?_ ?_ ?_
  all_goals intros
  all_goals first | with_reducible exact absurd (by assumption) E100 | with_reducible exact absurd (by assumption) E108 | with_reducible exact absurd (by assumption) E111 | with_reducible exact absurd (by assumption) E114 | with_reducible exact absurd (by assumption) E115 | with_reducible exact absurd (by assumption) E119 | with_reducible exact K
theorem may_x {c i : Nat} {d : Dr} (h1 : ¬ c = 119) (h2 : ¬ c = 114) (h3 : ¬ c = 115) (h4 : ¬ c = 111) (h5 : ¬ c = 100) (h6 : ¬ c = 108) : mayF c i d = false := by
  unfold mayF
  rw [if_neg h1, if_neg h2, if_neg h3, if_neg h4, if_neg (fun q => q.elim h5 h6)]
theorem told_C {t : List Nat} (ht : Txt t) {i P S0 : Nat} {d : Dr} {M : Mem} {Q : Option Value → Mem → Prop} (hw : WfD d) (hi : i < 1000) (hr : RCt t M) (m3 : M.1 1 3 = nI P) (m4 : M.1 1 4 = nI S0) (hP : P ≤ t.length) (hd : RDc d M) {c : Nat} (hc : c < 256) (hQ : OutC Q M (if mayF c i d = true then itmF t c P d else .inl S0)) : WX mi_R_readTold 5 Q 0 [some (.ref 1), some (.int (nI c)), some (.int (nI i)), none] [] M := by
  by_cases h119 : c = 119
  · subst h119
    exact told_119 ht hw hi hr m3 m4 hP hd hQ
  by_cases h114 : c = 114
  · subst h114
    exact told_114 ht hw hi hr m3 m4 hP hd hQ
  by_cases h115 : c = 115
  · subst h115
    exact told_115 ht hw hi hr m3 m4 hP hd hQ
  by_cases h111 : c = 111
  · subst h111
    exact told_111 ht hw hi hr m3 m4 hP hd hQ
  by_cases h100 : c = 100
  · subst h100
    exact told_100 ht hw hi hr m3 m4 hP hd hQ
  by_cases h108 : c = 108
  · subst h108
    exact told_108 ht hw hi hr m3 m4 hP hd hQ
  rw [if_neg (by rw [may_x h119 h114 h115 h111 h100 h108]; decide)] at hQ
  have ne : ∀ l, l < 256 → ¬ c = l → ¬ nI c = nI l := fun l hl h q => h ((nI_eq (by omega) (by omega)).mp q)
  exact told_x (ne 100 (by decide) h100) (ne 108 (by decide) h108) (ne 111 (by decide) h111) (ne 114 (by decide) h114) (ne 115 (by decide) h115) (ne 119 (by decide) h119) (hQ.1 S0 M rfl m4 (FD.refl M))
theorem row_e {t : List Nat} {R : Nat} : ∀ n x P H e, rowF t R n x P H = .inl e → P ≤ t.length → e ≤ t.length
  | 0, x, P, H, e, h, hP => by
    have h : (Sum.inr (P, H) : Nat ⊕ (Nat × (Nat → Nat))) = .inl e := h
    cases h
  | n + 1, x, P, H, e, h, hP => by
    have h : (match nmF t P 0 10 with | none => Sum.inl (tkS t P) | some v => rowF t R n (x + 1) (tkE t P) (updN H (4 * R + x) v)) = .inl e := h
    cases q : nmF t P 0 10 with
    | none => rw [q] at h; cases h; exact tkS_le hP
    | some v =>
      rw [q] at h
      exact row_e n (x + 1) (tkE t P) (updN H (4 * R + x) v) e h (nm_step q).2
theorem sto_e {t : List Nat} : ∀ n x P H e, stoF t n x P H = .inl e → P ≤ t.length → e ≤ t.length
  | 0, x, P, H, e, h, hP => by
    have h : (Sum.inr (P, H) : Nat ⊕ (Nat × (Nat → Nat))) = .inl e := h
    cases h
  | n + 1, x, P, H, e, h, hP => by
    have h : (match nmF t P 0 21 with | none => Sum.inl (tkS t P) | some v => stoF t n (x + 1) (tkE t P) (updN H x v)) = .inl e := h
    cases q : nmF t P 0 21 with
    | none => rw [q] at h; cases h; exact tkS_le hP
    | some v =>
      rw [q] at h
      exact sto_e n (x + 1) (tkE t P) (updN H x v) e h (nm_step q).2
theorem itm_e {t : List Nat} {c P e : Nat} {d : Dr} (h : itmF t c P d = .inl e) (hP : P ≤ t.length) : e ≤ t.length := by
  unfold itmF at h
  by_cases c1 : c = 119
  · rw [if_pos c1] at h
    unfold widF at h
    cases q : nmF t P 1 5 with
    | none => rw [q] at h; cases h; exact tkS_le hP
    | some v => rw [q] at h; cases h
  · rw [if_neg c1] at h
    by_cases c2 : c = 114
    · rw [if_pos c2] at h
      unfold rwsF at h
      cases q : rowF t (pR d.1) (pW d.1) 0 P d.2.1 with
      | inl f => rw [q] at h; cases h; exact row_e _ _ _ _ _ q hP
      | inr r => rw [q] at h; cases h
    · rw [if_neg c2] at h
      by_cases c3 : c = 115
      · rw [if_pos c3] at h
        unfold stkF at h
        cases q : stoF t 4 0 P d.2.2.1 with
        | inl f => rw [q] at h; cases h; exact sto_e _ _ _ _ _ q hP
        | inr r => rw [q] at h; cases h
      · rw [if_neg c3] at h
        unfold celF at h
        cases q : nmF t P 0 (pW d.1) with
        | none => rw [q] at h; cases h; exact tkS_le hP
        | some x =>
          rw [q] at h
          dsimp only at h
          have s := nm_step q
          cases q2 : nmF t (tkE t P) 0 (pR d.1) with
          | none => rw [q2] at h; cases h; exact tkS_le s.2
          | some y =>
            rw [q2] at h
            dsimp only at h
            by_cases a1 : c = 111
            · rw [if_pos a1] at h; cases h
            · rw [if_neg a1] at h
              by_cases a2 : (pL d.1 (4 * y + x) || pD d.1 (4 * y + x)) = true
              · rw [if_pos a2] at h; cases h; exact tkS_le s.2
              · rw [if_neg a2] at h
                by_cases a3 : c = 108
                · rw [if_pos a3] at h; cases h
                · rw [if_neg a3] at h; cases h
def OutA (Q : Option Value → Mem → Prop) (M : Mem) (r : Nat ⊕ (Nat × Dr)) : Prop := (∀ e M', r = .inl e → e ≤ 150 → FD M M' → Q (some (.int (-10 - nI e))) M') ∧ (∀ i' d' M', r = .inr (i', d') → RDc d' M' → FD M M' → Q (some (.int (nI i'))) M')
theorem tkV_1 {t : List Nat} {P c : Nat} (ht : Txt t) (hk : tkK t P = 1) (hv : tkV t P = some c) : c < 256 := by
  have h0 : ¬ tkK t P = 0 := by rw [hk]; decide
  obtain ⟨h1, h2⟩ := tkK_n h0
  unfold tkV vlF at hv
  rw [hk, if_pos rfl] at hv
  by_cases q : tkE t P - tkS t P = 1
  · rw [if_pos q] at hv
    cases hv
    exact ch_lt ht h1
  · rw [if_neg q] at hv; cases hv
theorem all_C {t : List Nat} (ht : Txt t) {M0 : Mem} {Q : Option Value → Mem → Prop} : ∀ (f i P : Nat) (d : Dr) (M : Mem), f + i = 151 → 2 * i ≤ P → P ≤ t.length → WfD d → (i = 0 → pR d.1 = 0 ∧ ∀ k, pL d.1 k = false ∧ pD d.1 k = false) → RCt t M → M.1 1 3 = nI P → RDc d M → FD M0 M → OutA Q M0 (parF t f i P d) →
    WX mi_R_readAll 6 Q 29 [some (.ref 1), some (.int (nI i))] [] M := by
  have hl := ht.1
  intro f
  induction f with
  | zero => intro i P d M a1 a2 a3; omega
  | succ f ih =>
    intro i P d M a1 a2 a3 hw h0 hr m3 hd hf hQ
    have hQ : OutA Q M0 (if tkK t P = 0 then Sum.inr (i, d) else match (if tkK t P = 1 then tkV t P else none) with
      | none => Sum.inl (tkS t P)
      | some c => if mayF c i d = true then (match itmF t c (tkE t P) d with
        | .inl e => Sum.inl e
        | .inr (P', d') => if tkK t P' = 3 then parF t f (i + 1) (tkE t P') d' else .inl (tkS t P')) else .inl (tkS t P)) := hQ
    have sS := tkS_le (t := t) a3
    have n150 : ¬ (150 : Int32) ≤ nI i := Int32.not_le.mpr (nI_lt (b := 150) (by omega) (by decide))
    refine sg_R_readAll_1_29 M _ (fun c => absurd c n150) (fun _ => ?_)
    refine wx_readToken ht hr m3 a3 (fun M1 tc ft => ?_)
    obtain ⟨b3, b4, b5, b6⟩ := tc
    have hd1 := hd.ft ft
    have f1 := hf.trans ft.fd
    have hk4 := tkK_le t P
    have k0 : M1.1 1 5 = 0 ↔ tkK t P = 0 := by rw [b5]; exact nI_is0 (by omega)
    have k1 : M1.1 1 5 = 1 ↔ tkK t P = 1 := by rw [b5]; exact nI_eq (b := 1) (by omega) (by decide)
    refine sg_R_readAll_1_40 M1 _ (fun c c2 => ?_) (fun c c2 => ?_) (fun c => ?_)
    · rw [k0] at c
      rw [k1] at c2
      rw [if_neg c, if_neg c2] at hQ
      rw [b4]
      exact hQ.1 _ M1 rfl (by omega) f1
    · rw [k0] at c
      rw [k1] at c2
      rw [if_neg c, if_pos c2] at hQ
      rw [b6]
      have g := tkE_gt c
      have gS := tkS_ge t P
      cases hv : tkV t P with
      | none =>
        rw [hv] at hQ
        refine told_x (by decide) (by decide) (by decide) (by decide) (by decide) (by decide) ?_
        refine sg_R_readAll_1_66 M1 _ _ (fun q => absurd rfl q) (fun _ => ?_)
        rw [b4]
        exact hQ.1 _ M1 rfl (by omega) f1
      | some v =>
        rw [hv] at hQ
        dsimp only at hQ
        refine told_C ht hw (by omega) (hr.ft ft) b3 b4 g.2 hd1 (tkV_1 ht c2 hv) ⟨fun e M2 a b fd => ?_, fun P2 d2 M2 a b rd fd => ?_⟩
        · refine sg_R_readAll_1_66 M2 _ _ (fun q => absurd rfl q) (fun _ => ?_)
          rw [b]
          by_cases m : mayF v i d = true
          · rw [if_pos m] at a hQ
            rw [a] at hQ
            have := itm_e a g.2
            exact hQ.1 e M2 rfl (by omega) (f1.trans fd)
          · rw [if_neg m] at a hQ
            cases a
            exact hQ.1 _ M2 rfl (by omega) (f1.trans fd)
        · refine sg_R_readAll_1_66 M2 _ _ (fun _ => ?_) (fun q => absurd q (by decide))
          by_cases m : mayF v i d = true
          · rw [if_pos m] at a hQ
            rw [a] at hQ
            dsimp only at hQ
            obtain ⟨w1, w2, w3⟩ := itm_ok a m hw h0 g.2
            refine wx_readToken ht ((hr.ft ft).fd fd) b w3 (fun M3 tc3 ft3 => ?_)
            obtain ⟨e3, e4, e5, e6⟩ := tc3
            have f3 := (f1.trans fd).trans ft3.fd
            have hk5 := tkK_le t P2
            have sS2 := tkS_le (t := t) w3
            have k3 : M3.1 1 5 = 3 ↔ tkK t P2 = 3 := by rw [e5]; exact nI_eq (b := 3) (by omega) (by decide)
            refine sg_R_readAll_1_81 M3 _ (fun q => ?_) (fun q => ?_)
            · rw [k3] at q
              rw [if_pos q] at hQ
              rw [nI_1]
              have g3 := tkE_gt (t := t) (P := P2) (by omega)
              have gS3 := tkS_ge t P2
              exact ih (i + 1) (tkE t P2) d2 M3 (by omega) (by omega) g3.2 w1 (fun q => absurd q (by omega)) (((hr.ft ft).fd fd).ft ft3) e3 (rd.ft ft3) f3 hQ
            · rw [k3] at q
              rw [if_neg q] at hQ
              rw [e4]
              exact hQ.1 _ M3 rfl (by omega) f3
          · rw [if_neg m] at a
            cases a
    · rw [k0] at c
      rw [if_pos c] at hQ
      exact hQ.2 i d M1 rfl hd1 f1
