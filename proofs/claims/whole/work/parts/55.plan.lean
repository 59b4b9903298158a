/-! ===== plan: the model's search ===== -/
def fTn (S : Nat → Nat × Nat) : Nat → Nat → Option Nat
  | 0 => fun _ => none
  | n + 1 => upT (fTn S n) (S n).1 (S n).2
def pshS (S : Nat → Nat × Nat) (n k z : Nat) : Nat → Nat × Nat := fun i => if i = n then (k, z) else S i
theorem fTn_congr {S S' : Nat → Nat × Nat} : ∀ n, (∀ i, i < n → S' i = S i) → fTn S' n = fTn S n
  | 0, _ => rfl
  | n + 1, h => by
    show upT (fTn S' n) (S' n).1 (S' n).2 = upT (fTn S n) (S n).1 (S n).2
    rw [fTn_congr n (fun i hi => h i (by omega)), h n (by omega)]
theorem fTn_psh (S : Nat → Nat × Nat) (n k z : Nat) : fTn (pshS S n k z) (n + 1) = upT (fTn S n) k z := by
  have e : pshS S n k z n = (k, z) := if_pos rfl
  show upT (fTn (pshS S n k z) n) (pshS S n k z n).1 (pshS S n k z n).2 = _
  rw [e, fTn_congr (S := S) (S' := pshS S n k z) n (fun i hi => (if_neg (by omega) : pshS S n k z i = S i))]
def RQ (g : Gd) (S : Nat → Nat × Nat) (n : Nat) (a : Acc) (M : Mem) : Prop := (∀ k, k < 16 → M.1 49 k = eSl (gSl g k)) ∧ (∀ z, z < 4 → M.1 50 z = nI (gSt g z)) ∧ (∀ i, i < n → M.1 51 i = nI (S i).1 ∧ (S i).1 < 16 ∧ M.1 52 i = nI (S i).2 ∧ (S i).2 < 4) ∧ M.1 37 26 = fewI a ∧ (∀ k, k < 16 → M.1 53 k = eSz (a.2 k))
def FQ (M M' : Mem) : Prop := (∀ q, q ≠ 37 → q < 49 ∨ 53 < q → M'.1 q = M.1 q) ∧ (∀ k, k ≠ 26 → M'.1 37 k = M.1 37 k) ∧ M'.2 = M.2
theorem FQ.refl (M : Mem) : FQ M M := ⟨fun _ _ _ => rfl, fun _ _ => rfl, rfl⟩
theorem FQ.trans {M M1 M2 : Mem} (h : FQ M M1) (h' : FQ M1 M2) : FQ M M2 := ⟨fun q a b => by rw [h'.1 q a b, h.1 q a b], fun k hk => by rw [h'.2.1 k hk, h.2.1 k hk], by rw [h'.2.2, h.2.2]⟩
theorem FQ.wo {M M1 : Mem} (h : FQ M M1) {r : Nat} (hr : 49 ≤ r ∧ r ≤ 53) (k : Nat) (v : Int32) : FQ M (wr M1 r k v) := ⟨fun q a b => by rw [wr_ne _ (by omega)]; exact h.1 q a b, fun k hk => by rw [wr_ne _ (by omega)]; exact h.2.1 k hk, h.2.2⟩
theorem FQ.wo26 {M M1 : Mem} (h : FQ M M1) (v : Int32) : FQ M (wr M1 37 26 v) := ⟨fun q a b => by rw [wr_ne _ a]; exact h.1 q a b, fun k hk => by rw [upd_row, if_neg hk]; exact h.2.1 k hk, h.2.2⟩
theorem FQ.put {M M1 M2 : Mem} (h : FQ M M1) (h1 : ∀ q, q ≠ 49 → M2.1 q = M1.1 q) (h2 : M2.2 = M1.2) : FQ M M2 := ⟨fun q a b => by rw [h1 q (by omega)]; exact h.1 q a b, fun k hk => by rw [h1 37 (by decide)]; exact h.2.1 k hk, by rw [h2]; exact h.2.2⟩
theorem RMp.fq {p : Pl} {M M' : Mem} (h : RMp p M) (hf : FQ M M') : RMp p M' := by
  unfold RMp at h ⊢
  rw [hf.1 39 (by decide) (by decide), hf.1 40 (by decide) (by decide), hf.1 41 (by decide) (by decide), hf.1 42 (by decide) (by decide), hf.1 43 (by decide) (by decide)]
  exact h
theorem RM.fq {s : Sg} {M M' : Mem} (h : RM s M) (hf : FQ M M') : RM s M' := by
  obtain ⟨h1, h2, h3, h4, h5, h6⟩ := h
  refine ⟨?_, h2.fq hf, ?_, ?_, ?_, by rw [hf.2.2]; exact h6⟩
  · unfold RMt at h1 ⊢; rw [hf.2.1 2 (by decide), hf.1 38 (by decide) (by decide)]; exact h1
  · rw [hf.1 46 (by decide) (by decide)]; exact h3
  · unfold RMi at h4 ⊢; rw [hf.1 46 (by decide) (by decide), hf.1 47 (by decide) (by decide)]; exact h4
  · unfold RMs at h5 ⊢; rw [hf.2.1 29 (by decide), hf.1 55 (by decide) (by decide)]; exact h5
theorem FQ.fr {M M' : Mem} (h : FQ M M') : FrM M M' := ⟨fun q hq => h.1 q (by omega) (by omega), by rw [h.2.2]⟩
/-- one slab back, or the end -/
def Pop (Q : Option Value → Mem → Prop) (n : Nat) (M' : Mem) : Prop := ∀ x2 x3 x4 x5 : Int32, (n = 0 → WX mi_M_findPlan 5 Q 92 [some (.ref 37), some (.int (nI n + (-1))), some (.int x2), none, none, none] [] M') ∧
  (0 < n → WX mi_M_cellsOf 3 (fun rv M'' => WX mi_M_findPlan 5 Q 391 [some (.ref 37), some (.int (nI n + (-1))), some (.int x2), some (.int x3), some (.int x4), some (.int x5)] (rv.toList ++ [.int 0, .ref 49]) M'') 0 [some (.ref 37), some (.int (M'.1 52 (nI n + (-1)).toNatClampNeg)), some (.int (M'.1 51 (nI n + (-1)).toNatClampNeg)), none, none, none, none] [] M')
theorem n_less {n : Nat} (hn : n ≤ 17) : (nI n + (-1) < 0 ↔ n = 0) ∧ (0 < n → nI n + (-1) = nI (n - 1)) := by
  have : ∀ n, n < 18 → (nI n + (-1) < 0 ↔ n = 0) ∧ (0 < n → nI n + (-1) = nI (n - 1)) := by decide +kernel
  exact this n (by omega)
theorem pop_0 {Q : Option Value → Mem → Prop} {n : Nat} {M : Mem} (h : Pop Q n M) (hn : n ≤ 17) (x2 x3 x5 : Int32) : WX mi_M_findPlan 5 Q 249 [some (.ref 37), some (.int (nI n)), some (.int x2), some (.int x3), some (.int 0), some (.int x5)] [] M := by
  have hl := n_less hn
  have v : ¬ nI n + (-1) < 0 → vp_in (nI n + (-1)) 17 := fun c => by
    have hn0 : 0 < n := Nat.pos_of_ne_zero (fun q => c (hl.1.mpr q))
    rw [hl.2 hn0]
    exact vp_in_nI (by omega) (by decide)
  have z : (0 : Int32) = 0 := rfl
  exact sg_M_findPlan_37_249 M _ _ _ _ _ (fun _ _ c => (h x2 x3 0 x5).1 (hl.1.mp c)) (fun _ _ c => v c) (fun _ _ c => (h x2 x3 0 x5).2 (Nat.pos_of_ne_zero (fun q => c (hl.1.mpr q)))) (fun _ c => absurd z c) (fun _ c => absurd z c) (fun _ c => absurd z c) (fun _ c => absurd z c) (fun c => absurd z c) (fun c => absurd z c) (fun c => absurd z c) (fun c => absurd z c) (fun c => absurd z c) (fun c => absurd z c) (fun c => absurd z c) (fun c => absurd z c) (fun c => absurd z c) (fun c => absurd z c)
theorem pop_1 {Q : Option Value → Mem → Prop} {n : Nat} {M : Mem} (h : Pop Q n M) (hn : n ≤ 17) (x2 x3 x5 : Int32) (h4 : 4 ≤ x2) : WX mi_M_findPlan 5 Q 249 [some (.ref 37), some (.int (nI n)), some (.int x2), some (.int x3), some (.int 1), some (.int x5)] [] M := by
  have hl := n_less hn
  have v : ¬ nI n + (-1) < 0 → vp_in (nI n + (-1)) 17 := fun c => by
    have hn0 : 0 < n := Nat.pos_of_ne_zero (fun q => c (hl.1.mpr q))
    rw [hl.2 hn0]
    exact vp_in_nI (by omega) (by decide)
  have z : ¬ (1 : Int32) = 0 := by decide
  exact sg_M_findPlan_37_249 M _ _ _ _ _ (fun c => absurd c z) (fun c => absurd c z) (fun c => absurd c z) (fun c => absurd c z) (fun c => absurd c z) (fun c => absurd c z) (fun c => absurd c z) (fun _ _ c => absurd c z) (fun _ _ c => absurd c z) (fun _ _ c => absurd c z) (fun _ _ _ _ c => (h x2 x3 1 x5).1 (hl.1.mp c)) (fun _ _ _ _ c => v c) (fun _ _ _ _ c => (h x2 x3 1 x5).2 (Nat.pos_of_ne_zero (fun q => c (hl.1.mpr q)))) (fun _ _ _ c => absurd h4 c) (fun _ c => absurd h4 c) (fun _ c => absurd h4 c) (fun _ c => absurd h4 c)
theorem few_9 {a : Acc} (h : a.1 ≤ 99) : fewI a = -9 ↔ a.1 = 99 := by
  unfold fewI
  by_cases q : a.1 = 99
  · rw [if_pos q]; exact ⟨fun _ => q, fun _ => rfl⟩
  · rw [if_neg q]
    exact ⟨fun c => absurd c (nI_nm9 (by omega)), fun c => absurd c q⟩
theorem few_le {a : Acc} {n : Nat} (h : a.1 ≤ 99) (h9 : ¬ fewI a = -9) (hn : n ≤ 100) : fewI a ≤ nI n ↔ a.1 ≤ n := by
  rw [few_9 h] at h9
  unfold fewI
  rw [if_neg h9]
  exact nI_le_iff (by omega) (by omega)
/-- a node where no cell is free -/
theorem wx_leafM {B : Nat} {p : Pl} (hp : WfP p) {g : Gd} {S : Nat → Nat × Nat} {n : Nat} {a : Acc} {M : Mem} {Q : Option Value → Mem → Prop} {x2 : Int32} (h0 : frN p g = 0) (hn : n ≤ 16) (hg : WfG B p g) (hm : RMp p M) (ha : a.1 ≤ 99) (hr : RQ g S n a M)
    (hK : ∀ M', RQ g S n (leafA g (fTn S n) n a) M' → FQ M M' → Pop Q n M') : WX mi_M_findPlan 5 Q 92 [some (.ref 37), some (.int (nI n)), some (.int x2), none, none, none] [] M := by
  obtain ⟨r1, r2, r3, r4, r5⟩ := hr
  have hb : ∀ k c, gSl g k = some c → c < 64 := fun k c h => (hg.2.1 k c h).2.1.1
  have nn : ¬ nI n < 0 := by
    rw [Int32.not_lt]
    exact (nI_le_iff (a := 0) (by decide) (by omega)).mpr (Nat.zero_le n)
  have ez : sI (fre p g) = 0 := fre_0.mpr h0
  refine sg_M_findPlan_37_92 M _ _ (fun c => absurd c nn) (fun _ => ?_)
  refine wx_freeBy49 (o := 0) (sl := gSl g) hp hm (by decide) (fun k hk => by rw [Nat.zero_add]; exact r1 k hk) hb ?_
  have no : leafA g (fTn S n) n a = a → ∀ y2 y3 y5 : Int32, WX mi_M_findPlan 5 Q 249 [some (.ref 37), some (.int (nI n)), some (.int y2), some (.int y3), some (.int 0), some (.int y5)] [] M := by
    intro h y2 y3 y5
    exact pop_0 (hK M (by rw [h]; exact ⟨r1, r2, r3, r4, r5⟩) (FQ.refl M)) (by omega) y2 y3 y5
  have cr : n < a.1 → ∀ y2 : Int32, WX mi_M_crosses 4 (fun rv M' => WX mi_M_findPlan 5 Q 136 [some (.ref 37), some (.int (nI n)), some (.int y2), some (.int (sI (fre p g))), none, none] (rv.toList ++ []) M') 0 [some (.ref 37), some (.ref 49), some (.int 0), none, none, none] [] M := by
    intro hlt y2
    refine wx_crosses_49 hp hm hg (fun k hk => by rw [Nat.zero_add]; exact r1 k hk) ?_
    have hc16 := cntB_le (crs g) 16
    refine sg_M_findPlan_37_136 M _ _ _ _ (fun c _ => no ?_ _ _ _) (fun _ c => absurd ez c) (fun _ c => absurd ez c) (fun _ c => absurd ez c) (fun c => ?_)
    · unfold leafA
      exact if_neg (fun q => c (by rw [q.2]; rfl))
    · have c0 : cntB (crs g) 16 = 0 := (nI_is0 (by omega)).mp c
      have eL : leafA g (fTn S n) n a = (n, fTn S n) := if_pos ⟨hlt, c0⟩
      rw [eL] at hK
      have e26 : fewI ((n, fTn S n) : Acc) = nI n := if_neg (show ¬ n = 99 by omega)
      have loop2 : ∀ i, i ≤ n → ∀ M1 : Mem, (∀ k, k < 16 → M1.1 49 k = eSl (gSl g k)) → (∀ z, z < 4 → M1.1 50 z = nI (gSt g z)) → (∀ i, i < n → M1.1 51 i = nI (S i).1 ∧ (S i).1 < 16 ∧ M1.1 52 i = nI (S i).2 ∧ (S i).2 < 4) → M1.1 37 26 = nI n → (∀ k, k < 16 → M1.1 53 k = eSz (fTn S i k)) → FQ M M1 →
          WX mi_M_findPlan 5 Q 172 [some (.ref 37), some (.int (nI n)), some (.int y2), some (.int (sI (fre p g))), some (.int (nI i)), none] [] M1 := by
        refine downN n (fun M1 e1 e2 e3 e4 e5 e6 => ?_) (fun i hi ih M1 e1 e2 e3 e4 e5 e6 => ?_)
        · have le : nI n ≤ nI n := Int32.le_refl _
          refine sg_M_findPlan_37_172 M1 _ _ _ _ (fun _ _ => ?_) (fun _ c => absurd ez c) (fun _ c => absurd ez c) (fun _ c => absurd ez c) (fun c => absurd le c) (fun c => absurd le c) (fun c => absurd le c)
          exact pop_0 (hK M1 ⟨e1, e2, e3, by rw [e26]; exact e4, e5⟩ e6) (by omega) _ _ _
        · have nle : ¬ nI n ≤ nI i := fun c => by
            have := (nI_le_iff (by omega) (by omega)).mp c
            omega
          have ei : (nI i).toNatClampNeg = i := nI_clamp (by omega)
          obtain ⟨s1, s2, s3, s4⟩ := e3 i hi
          refine sg_M_findPlan_37_172 M1 _ _ _ _ (fun c => absurd c nle) (fun c => absurd c nle) (fun c => absurd c nle) (fun c => absurd c nle) (fun _ => vp_in_nI (by omega) (by decide)) (fun _ => ?_) (fun _ => ?_)
          · rw [ei, s1]; exact vp_in_nI s2 (by decide)
          · rw [ei, s1, s3, nI_1, nI_clamp (by omega)]
            refine ih _ (fun k hk => by rw [wr_ne _ (by decide)]; exact e1 k hk) (fun k hk => by rw [wr_ne _ (by decide)]; exact e2 k hk) (fun j hj => by rw [wr_ne _ (by decide), wr_ne _ (by decide)]; exact e3 j hj) (by rw [wr_ne _ (by decide)]; exact e4) (fun k hk => ?_) (e6.wo ⟨by decide, by decide⟩ _ _)
            rw [upd_row]
            show _ = eSz (if k = (S i).1 then some (S i).2 else fTn S i k)
            by_cases q : k = (S i).1
            · rw [if_pos q, if_pos q]; rfl
            · rw [if_neg q, if_neg q]; exact e5 k hk
      have loop1 : ∀ u, u ≤ 16 → ∀ M1 : Mem, (∀ k, k < 16 → M1.1 49 k = eSl (gSl g k)) → (∀ z, z < 4 → M1.1 50 z = nI (gSt g z)) → (∀ i, i < n → M1.1 51 i = nI (S i).1 ∧ (S i).1 < 16 ∧ M1.1 52 i = nI (S i).2 ∧ (S i).2 < 4) → M1.1 37 26 = nI n → (∀ k, k < u → M1.1 53 k = -9) → FQ M M1 →
          WX mi_M_findPlan 5 Q 147 [some (.ref 37), some (.int (nI n)), some (.int y2), some (.int (sI (fre p g))), some (.int (nI u)), none] [] M1 := by
        refine downN 16 (fun M1 e1 e2 e3 e4 e5 e6 => ?_) (fun u hu ih M1 e1 e2 e3 e4 e5 e6 => ?_)
        · refine sg_M_findPlan_37_147 M1 _ _ _ _ (fun _ => ?_) (fun c => absurd ge16 c) (fun c => absurd ge16 c)
          exact loop2 0 (Nat.zero_le n) M1 e1 e2 e3 e4 (fun k hk => e5 k hk) e6
        · refine sg_M_findPlan_37_147 M1 _ _ _ _ (fun c => absurd c (lt16 hu)) (fun _ => vp_in_nI hu (by decide)) (fun _ => ?_)
          rw [nI_1, nI_clamp (by omega)]
          refine ih _ (fun k hk => by rw [wr_ne _ (by decide)]; exact e1 k hk) (fun k hk => by rw [wr_ne _ (by decide)]; exact e2 k hk) (fun j hj => by rw [wr_ne _ (by decide), wr_ne _ (by decide)]; exact e3 j hj) (by rw [wr_ne _ (by decide)]; exact e4) (fun k hk => ?_) (e6.wo ⟨by decide, by decide⟩ _ _)
          rw [upd_row]
          by_cases q : k = u
          · rw [if_pos q]
          · rw [if_neg q]; exact e5 k (by omega)
      exact loop1 0 (by decide) _ (fun k hk => by rw [wr_ne _ (by decide)]; exact r1 k hk) (fun k hk => by rw [wr_ne _ (by decide)]; exact r2 k hk) (fun j hj => by rw [wr_ne _ (by decide), wr_ne _ (by decide)]; exact r3 j hj) (by rw [upd_row, if_pos rfl]) (fun k hk => absurd hk (Nat.not_lt_zero k)) ((FQ.refl M).wo26 _)
  have f26 := few_9 ha
  have fz : ¬ ¬ sI (fre p g) = 0 := fun c => c ez
  show WX mi_M_findPlan 5 Q 105 [some (.ref 37), some (.int (nI n)), some (.int x2), none, none, none] [.int (sI (fre p g))] M
  refine sg_M_findPlan_37_105 M _ _ _ (fun c => absurd c fz) (fun c => absurd c fz) (fun c => absurd c fz) (fun c => absurd c fz) (fun _ c => ?_) (fun _ c c2 _ => no ?_ _ _ _) (fun _ _ _ c => absurd c fz) (fun _ _ _ c => absurd c fz) (fun _ _ _ c => absurd c fz) (fun _ c c2 => ?_)
  · rw [r4, f26] at c
    exact cr (by omega) _
  · rw [r4] at c c2
    rw [few_le ha c (by omega)] at c2
    unfold leafA
    exact if_neg (fun q => by omega)
  · rw [r4] at c c2
    rw [few_le ha c (by omega)] at c2
    exact cr (by omega) _
