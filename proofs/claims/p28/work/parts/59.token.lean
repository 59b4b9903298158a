/-! ===== yard: the class's readToken; printed by wip/gen/p59.py ===== -/
theorem tok_step {t : List Nat} (ht : Txt t) {K P : Nat} {x1 x2 : Int32} {M2 : Mem} {Q : Option Value → Mem → Prop} (h : RCt t M2) (hP : P < t.length) (hk : knd (chT t P) = K) (m3 : M2.1 1 3 = nI P) (m5 : M2.1 1 5 = nI K) (hx : ¬ x1 ≤ nI P)
    (K1 : WX mi_R_readToken 2 Q 116 [some (.ref 1), some (.int x1), some (.int (((x2 * 10) + nI (chT t P)) - 48)), none] [] (wr M2 1 3 (nI (P + 1)))) : WX mi_R_readToken 2 Q 116 [some (.ref 1), some (.int x1), some (.int x2), none] [] M2 := by
  have hl := ht.1
  have e2 : M2.1 2 (M2.1 1 3).toNatClampNeg = nI (chT t P) := by rw [m3, nI_clamp (by omega)]; exact h.2 P _ (ch_in hP)
  have C1 : ¬ x1 ≤ M2.1 1 3 := by rw [m3]; exact hx
  have C2 : z_R_sortOf (M2.1 2 (M2.1 1 3).toNatClampNeg) = M2.1 1 5 := by rw [e2, m5, knd_C _ (ch_lt ht hP), hk]
  have V3 : vp_in (M2.1 1 3) 150 := by rw [m3]; exact vp_in_nI (by omega) (by decide)
  have K2 : WX mi_R_readToken 2 Q 116 [some (.ref 1), some (.int x1), some (.int (((x2 * 10) + (M2.1 2 (M2.1 1 3).toNatClampNeg)) - 48)), none] [] (wr M2 1 3 ((M2.1 1 3) + 1)) := by
    rw [e2, m3, nI_1]
    exact K1
  refine sg_R_readToken_1_116 M2 _ _ ?_ ?_ ?_ ?_ ?_ ?_ ?_ ?_ ?_ ?_ ?_ ?_ ?_ ?_ ?_ ?_ ?_ ?_ ?_ ?_ ?_ ?_ ?_ ?_ ?_ ?_ ?_ ?_ ?_ ?_ ?_ ?_ ?_ ?_ ?_
  all_goals intros
  all_goals first | with_reducible exact absurd (by assumption) C1 | with_reducible exact absurd C2 (by assumption) | with_reducible exact V3 | with_reducible exact K2
theorem RCt.st {t : List Nat} {M : Mem} (h : RCt t M) {k : Nat} (hk : 3 ≤ k) (v : Int32) : RCt t (wr M 1 k v) := ⟨by rw [upd_row, if_neg (by omega)]; exact h.1, fun j c hj => by rw [wr_ne _ (by decide)]; exact h.2 j c hj⟩
theorem RCt.ft {t : List Nat} {M M' : Mem} (h : RCt t M) (hf : FT1 M M') : RCt t M' := ⟨by rw [hf.2.1 1 (by decide)]; exact h.1, fun j c hj => by rw [hf.1 2 (by decide)]; exact h.2 j c hj⟩
theorem FT1.trans {M M1 M2 : Mem} (h : FT1 M M1) (h' : FT1 M1 M2) : FT1 M M2 := ⟨fun q a => by rw [h'.1 q a, h.1 q a], fun k hk => by rw [h'.2.1 k hk, h.2.1 k hk], by rw [h'.2.2, h.2.2]⟩
theorem tok_run {t : List Nat} (ht : Txt t) {K S E : Nat} (hK : K = 1 ∨ K = 2) (hS : S < t.length) (hSE : S < E) {M : Mem} {Q : Option Value → Mem → Prop} (hQ : ∀ M', M'.1 1 3 = nI E → M'.1 1 4 = nI S → M'.1 1 5 = nI K → M'.1 1 6 = eV (vlF t K S E) → FT1 M M' → Q none M') :
    ∀ f P (M2 : Mem), t.length ≤ P + f → S ≤ P → P ≤ t.length → (∀ j, S ≤ j → j < P → knd (chT t j) = K) → rnN t K f P = E → M2.1 1 3 = nI P → M2.1 1 4 = nI S → M2.1 1 5 = nI K → M2.1 1 6 = -1 → RCt t M2 → FT1 M M2 →
      WX mi_R_readToken 2 Q 116 [some (.ref 1), some (.int (nI t.length)), some (.int (csum t S (P - S))), none] [] M2 := by
  have hl := ht.1
  have fin : ∀ P (M2 : Mem), P = E → P ≤ t.length → (∀ j, S ≤ j → j < P → knd (chT t j) = K) → (P = t.length ∨ (P < t.length ∧ ¬ knd (chT t P) = K)) → M2.1 1 3 = nI P → M2.1 1 4 = nI S → M2.1 1 5 = nI K → M2.1 1 6 = -1 → RCt t M2 → FT1 M M2 →
      WX mi_R_readToken 2 Q 116 [some (.ref 1), some (.int (nI t.length)), some (.int (csum t S (P - S))), none] [] M2 := by
    intro P M2 e hP hall hst m3 m4 m5 m6 hr hf
    subst e
    have m2 : M2.1 2 S = nI (chT t S) := hr.2 S _ (ch_in hS)
    refine tok_end (by omega) (by omega) hSE (by omega) m3 m4 m5 m6 m2 (fun k2 d => ?_) (fun k2 d => ?_) ?_ (fun M' e1 e2 e3 e4 e5 => hQ M' e1 e2 e3 e4 (hf.trans e5))
    · rw [d]
      exact csum_1 (by rw [hall S (Nat.le_refl S) hSE, k2])
    · have a1 : knd (chT t S) = 2 := by rw [hall S (Nat.le_refl S) hSE, k2]
      have a2 : knd (chT t (S + 1)) = 2 := by rw [hall (S + 1) (by omega) (by omega), k2]
      rw [d]
      exact ⟨csum_2 a1 a2, (knd_2 a1).1, (knd_2 a1).2, (knd_2 a2).2⟩
    · rcases hst with q | ⟨q1, q2⟩
      · refine Or.inl ?_
        rw [m3, q]
        exact Int32.le_refl _
      · refine Or.inr ⟨?_, by omega, ?_⟩
        · rw [m3]
          intro c
          have := (nI_le_iff (by omega) (by omega)).mp c
          omega
        · rw [m3, nI_clamp (by omega), hr.2 P _ (ch_in q1), knd_C _ (ch_lt ht q1), m5]
          intro c
          exact q2 ((nI_eq (by have := (knd_le (chT t P)).2; omega) (by omega)).mp c)
  intro f
  induction f with
  | zero =>
    intro P M2 hf h1 h2 hall he m3 m4 m5 m6 hr hfr
    exact fin P M2 he h2 hall (Or.inl (by omega)) m3 m4 m5 m6 hr hfr
  | succ f ih =>
    intro P M2 hf h1 h2 hall he m3 m4 m5 m6 hr hfr
    have he : (if knd (chT t P) = K then rnN t K f (P + 1) else P) = E := he
    by_cases q : knd (chT t P) = K
    · rw [if_pos q] at he
      have hP : P < t.length := knd_in (by omega) q
      refine tok_step ht hr hP q m3 m5 (fun c => ?_) ?_
      · have := (nI_le_iff (by omega) (by omega)).mp c
        omega
      · have ec : ((csum t S (P - S) * 10) + nI (chT t P)) - 48 = csum t S (P + 1 - S) := by
          rw [show P + 1 - S = (P - S) + 1 by omega]
          show _ = ((csum t S (P - S) * 10) + nI (chT t (S + (P - S)))) - 48
          rw [show S + (P - S) = P by omega]
        rw [ec]
        refine ih (P + 1) _ (by omega) (by omega) hP (fun j a b => ?_) he (by rw [upd_row, if_pos rfl]) (by rw [upd_row, if_neg (by decide)]; exact m4) (by rw [upd_row, if_neg (by decide)]; exact m5) (by rw [upd_row, if_neg (by decide)]; exact m6) (hr.st (by decide) _) (hfr.st ⟨by decide, by decide⟩ _)
        by_cases e : j = P
        · rw [e]; exact q
        · exact hall j a (by omega)
    · rw [if_neg q] at he
      refine fin P M2 he h2 hall ?_ m3 m4 m5 m6 hr hfr
      by_cases e : P = t.length
      · exact Or.inl e
      · exact Or.inr ⟨by omega, q⟩
theorem tok_start {t : List Nat} (ht : Txt t) {P : Nat} {M M1 : Mem} {Q : Option Value → Mem → Prop} (hS : tkS t P ≤ t.length) (h32 : ¬ chT t (tkS t P) = 32) (hr : RCt t M1) (m3 : M1.1 1 3 = nI (tkS t P)) (hf : FT1 M M1) (hQ : ∀ M', TC t P M' → FT1 M M' → Q none M') : WX mi_R_readToken 2 Q 0 [some (.ref 1), none, none, none] [] M1 := by
  have hl := ht.1
  by_cases q : t.length ≤ tkS t P
  · have k0 : tkK t P = 0 := tkK_0.mpr q
    have A1 : M1.1 1 1 ≤ M1.1 1 3 := by rw [hr.1, m3]; exact (nI_le_iff (by omega) (by omega)).mpr q
    have A2 : ¬ M1.1 1 3 < M1.1 1 1 := Int32.not_lt.mpr A1
    have K : Q none (wr (wr (wr M1 1 4 (M1.1 1 3)) 1 6 (-1)) 1 5 0) := by
      refine hQ _ ⟨?_, ?_, ?_, ?_⟩ (((hf.st ⟨by decide, by decide⟩ _).st ⟨by decide, by decide⟩ _).st ⟨by decide, by decide⟩ _)
      · rw [upd_row, if_neg (by decide), upd_row, if_neg (by decide), upd_row, if_neg (by decide), tkE_0 k0]; exact m3
      · rw [upd_row, if_neg (by decide), upd_row, if_neg (by decide), upd_row, if_pos rfl]; exact m3
      · rw [upd_row, if_pos rfl, k0]; rfl
      · rw [upd_row, if_neg (by decide), upd_row, if_pos rfl]
        have : tkV t P = none := by unfold tkV vlF; rw [k0]; rfl
        rw [this]; rfl
    refine sg_R_readToken_1_0 M1 ?_ ?_ ?_ ?_ ?_ ?_ ?_ ?_ ?_ ?_ ?_ ?_
    all_goals intros
    all_goals first | with_reducible exact absurd A1 (by assumption) | with_reducible exact absurd (by assumption) A2 | with_reducible exact K
  · have hS' : tkS t P < t.length := by omega
    have hch := ch_lt ht hS'
    have ek : tkK t P = knd (chT t (tkS t P)) := if_neg q
    have e2 : M1.1 2 (M1.1 1 3).toNatClampNeg = nI (chT t (tkS t P)) := by rw [m3, nI_clamp (by omega)]; exact hr.2 _ _ (ch_in hS')
    have A1 : ¬ M1.1 1 1 ≤ M1.1 1 3 := by
      rw [hr.1, m3]
      intro c
      have := (nI_le_iff (by omega) (by omega)).mp c
      omega
    have A2 : M1.1 1 3 < M1.1 1 1 := Int32.not_le.mp A1
    have A3 : ¬ M1.1 2 (M1.1 1 3).toNatClampNeg = 32 := by
      rw [e2]
      exact fun c => h32 ((nI_eq (b := 32) (by omega) (by decide)).mp c)
    have V3 : vp_in (M1.1 1 3) 150 := by rw [m3]; exact vp_in_nI (by omega) (by decide)
    have es : z_R_sortOf (M1.1 2 (M1.1 1 3).toNatClampNeg) = nI (knd (chT t (tkS t P))) := by rw [e2, knd_C _ hch]
    have hk := knd_le (chT t (tkS t P))
    have gt := en_gt hS'
    have eE : tkE t P = enF t (knd (chT t (tkS t P))) (tkS t P) := by unfold tkE; rw [ek]
    have hQ' : ∀ M', M'.1 1 3 = nI (enF t (knd (chT t (tkS t P))) (tkS t P)) → M'.1 1 4 = nI (tkS t P) → M'.1 1 5 = nI (knd (chT t (tkS t P))) → M'.1 1 6 = eV (vlF t (knd (chT t (tkS t P))) (tkS t P) (enF t (knd (chT t (tkS t P))) (tkS t P))) → FT1 M M' → Q none M' := by
      intro M' a1 a2 a3 a4 a5
      refine hQ M' ⟨by rw [eE]; exact a1, a2, by rw [ek]; exact a3, ?_⟩ a5
      unfold tkV
      rw [ek, eE]
      exact a4
    have base : ∀ v : Int32, v = nI (knd (chT t (tkS t P))) → (wr (wr (wr M1 1 4 (M1.1 1 3)) 1 6 (-1)) 1 5 v).1 1 3 = nI (tkS t P) ∧ (wr (wr (wr M1 1 4 (M1.1 1 3)) 1 6 (-1)) 1 5 v).1 1 4 = nI (tkS t P) ∧ (wr (wr (wr M1 1 4 (M1.1 1 3)) 1 6 (-1)) 1 5 v).1 1 5 = nI (knd (chT t (tkS t P))) ∧ (wr (wr (wr M1 1 4 (M1.1 1 3)) 1 6 (-1)) 1 5 v).1 1 6 = -1 ∧ RCt t (wr (wr (wr M1 1 4 (M1.1 1 3)) 1 6 (-1)) 1 5 v) ∧ FT1 M (wr (wr (wr M1 1 4 (M1.1 1 3)) 1 6 (-1)) 1 5 v) := by
      intro v hv
      refine ⟨?_, ?_, ?_, ?_, ((hr.st (by decide) _).st (by decide) _).st (by decide) _, ((hf.st ⟨by decide, by decide⟩ _).st ⟨by decide, by decide⟩ _).st ⟨by decide, by decide⟩ _⟩
      · rw [upd_row, if_neg (by decide), upd_row, if_neg (by decide), upd_row, if_neg (by decide)]; exact m3
      · rw [upd_row, if_neg (by decide), upd_row, if_neg (by decide), upd_row, if_pos rfl]; exact m3
      · rw [upd_row, if_pos rfl]; exact hv
      · rw [upd_row, if_neg (by decide), upd_row, if_pos rfl]
    obtain ⟨b3, b4, b5, b6, b7, b8⟩ := base _ es
    by_cases k12 : knd (chT t (tkS t P)) = 1 ∨ knd (chT t (tkS t P)) = 2
    · have K : WX mi_R_readToken 2 Q 116 [some (.ref 1), some (.int (M1.1 1 1)), some (.int 0), none] [] (wr (wr (wr M1 1 4 (M1.1 1 3)) 1 6 (-1)) 1 5 (z_R_sortOf (M1.1 2 (M1.1 1 3).toNatClampNeg))) := by
        rw [hr.1]
        have r := tok_run ht k12 hS' gt.1 hQ' 151 (tkS t P) _ (by omega) (Nat.le_refl _) hS (fun j a b => absurd a (by omega)) (by unfold enF; rw [if_neg (by omega), if_pos k12]) b3 b4 b5 b6 b7 b8
        rw [Nat.sub_self] at r
        exact r
      rcases k12 with k | k
      · have S1 : z_R_sortOf (M1.1 2 (M1.1 1 3).toNatClampNeg) = 1 := by rw [es, k]; rfl
        refine sg_R_readToken_1_0 M1 ?_ ?_ ?_ ?_ ?_ ?_ ?_ ?_ ?_ ?_ ?_ ?_
        all_goals intros
        all_goals first | with_reducible exact absurd (by assumption) A1 | with_reducible exact absurd A2 (by assumption) | with_reducible exact absurd (by assumption) A3 | with_reducible exact absurd S1 (by assumption) | with_reducible exact V3 | with_reducible exact K
      · have S1 : ¬ z_R_sortOf (M1.1 2 (M1.1 1 3).toNatClampNeg) = 1 := by rw [es, k]; decide
        have S2 : z_R_sortOf (M1.1 2 (M1.1 1 3).toNatClampNeg) = 2 := by rw [es, k]; rfl
        refine sg_R_readToken_1_0 M1 ?_ ?_ ?_ ?_ ?_ ?_ ?_ ?_ ?_ ?_ ?_ ?_
        all_goals intros
        all_goals first | with_reducible exact absurd (by assumption) A1 | with_reducible exact absurd A2 (by assumption) | with_reducible exact absurd (by assumption) A3 | with_reducible exact absurd (by assumption) S1 | with_reducible exact absurd S2 (by assumption) | with_reducible exact V3 | with_reducible exact K
    · have hE : enF t (knd (chT t (tkS t P))) (tkS t P) = tkS t P + 1 := by unfold enF; rw [if_neg (by omega), if_neg k12]
      have S1 : ¬ z_R_sortOf (M1.1 2 (M1.1 1 3).toNatClampNeg) = 1 := by rw [es]; exact fun c => k12 (Or.inl ((nI_eq (b := 1) (by omega) (by decide)).mp c))
      have S2 : ¬ z_R_sortOf (M1.1 2 (M1.1 1 3).toNatClampNeg) = 2 := by rw [es]; exact fun c => k12 (Or.inr ((nI_eq (b := 2) (by omega) (by decide)).mp c))
      rw [hE] at hQ'
      have K : WX mi_R_readToken 2 Q 116 [some (.ref 1), some (.int ((M1.1 1 3) + 1)), some (.int 0), none] [] (wr (wr (wr M1 1 4 (M1.1 1 3)) 1 6 (-1)) 1 5 (z_R_sortOf (M1.1 2 (M1.1 1 3).toNatClampNeg))) := by
        refine tok_step ht b7 hS' rfl b3 b5 (fun c => ?_) ?_
        · rw [m3, nI_1] at c
          have := (nI_le_iff (by omega) (by omega)).mp c
          omega
        · refine tok_end (K := knd (chT t (tkS t P))) (S := tkS t P) (E := tkS t P + 1) (by omega) (by omega) (by omega) hk (by rw [upd_row, if_pos rfl]) (by rw [upd_row, if_neg (by decide)]; exact b4) (by rw [upd_row, if_neg (by decide)]; exact b5) (by rw [upd_row, if_neg (by decide)]; exact b6) (by rw [wr_ne _ (by decide)]; exact b7.2 _ _ (ch_in hS')) (fun c => absurd (Or.inr c) k12) (fun c => absurd (Or.inr c) k12) (Or.inl ?_) (fun M' e1 e2 e3 e4 e5 => hQ' M' e1 e2 e3 e4 ((b8.st ⟨by decide, by decide⟩ _).trans e5))
          rw [upd_row, if_pos rfl, m3, nI_1]
          exact Int32.le_refl _
      refine sg_R_readToken_1_0 M1 ?_ ?_ ?_ ?_ ?_ ?_ ?_ ?_ ?_ ?_ ?_ ?_
      all_goals intros
      all_goals first | with_reducible exact absurd (by assumption) A1 | with_reducible exact absurd A2 (by assumption) | with_reducible exact absurd (by assumption) A3 | with_reducible exact absurd (by assumption) S1 | with_reducible exact absurd (by assumption) S2 | with_reducible exact V3 | with_reducible exact K
theorem wx_readToken {t : List Nat} (ht : Txt t) {P : Nat} {M : Mem} {Q : Option Value → Mem → Prop} (hr : RCt t M) (m3 : M.1 1 3 = nI P) (hP : P ≤ t.length) (hQ : ∀ M', TC t P M' → FT1 M M' → Q none M') : WX mi_R_readToken 2 Q 0 [some (.ref 1), none, none, none] [] M := by
  have hl := ht.1
  have loop : ∀ f P1 (M1 : Mem), t.length ≤ P1 + f → P1 ≤ t.length → spN t f P1 = tkS t P → RCt t M1 → M1.1 1 3 = nI P1 → FT1 M M1 → WX mi_R_readToken 2 Q 0 [some (.ref 1), none, none, none] [] M1 := by
    intro f
    induction f with
    | zero =>
      intro P1 M1 a1 a2 a3 a4 a5 a6
      have a3 : P1 = tkS t P := a3
      refine tok_start ht (by omega) (fun c => ?_) a4 (by rw [← a3]; exact a5) a6 hQ
      rw [ch_out (by omega)] at c
      omega
    | succ f ih =>
      intro P1 M1 a1 a2 a3 a4 a5 a6
      have a3 : (if chT t P1 = 32 then spN t f (P1 + 1) else P1) = tkS t P := a3
      by_cases q : chT t P1 = 32
      · rw [if_pos q] at a3
        have hlt : P1 < t.length := Decidable.byContradiction (fun c => by rw [ch_out (by omega)] at q; omega)
        have e2 : M1.1 2 (M1.1 1 3).toNatClampNeg = 32 := by rw [a5, nI_clamp (by omega), a4.2 _ _ (ch_in hlt), q]; rfl
        have A1 : ¬ M1.1 1 1 ≤ M1.1 1 3 := by
          rw [a4.1, a5]
          intro c
          have := (nI_le_iff (by omega) (by omega)).mp c
          omega
        have V3 : vp_in (M1.1 1 3) 150 := by rw [a5]; exact vp_in_nI (by omega) (by decide)
        have K : WX mi_R_readToken 2 Q 0 [some (.ref 1), none, none, none] [] (wr M1 1 3 ((M1.1 1 3) + 1)) := by
          rw [a5, nI_1]
          exact ih (P1 + 1) _ (by omega) hlt a3 (a4.st (by decide) _) (by rw [upd_row, if_pos rfl]) (a6.st ⟨by decide, by decide⟩ _)
        refine sg_R_readToken_1_0 M1 ?_ ?_ ?_ ?_ ?_ ?_ ?_ ?_ ?_ ?_ ?_ ?_
        all_goals intros
        all_goals first | with_reducible exact absurd (by assumption) A1 | with_reducible exact absurd e2 (by assumption) | with_reducible exact V3 | with_reducible exact K
      · rw [if_neg q] at a3
        refine tok_start ht (by rw [← a3]; exact a2) (by rw [← a3]; exact q) a4 (by rw [← a3]; exact a5) a6 hQ
  exact loop 151 P M (by omega) hP rfl hr m3 (FT1.refl M)
