/-! ===== yard: the text in tokens; printed by wip/gen/p58.py ===== -/
def chT (t : List Nat) (j : Nat) : Nat := (t[j]?).getD 256
def knd (c : Nat) : Nat := if 97 ≤ c ∧ c ≤ 122 then 1 else if 48 ≤ c ∧ c ≤ 57 then 2 else if c = 59 then 3 else 4
theorem knd_C : ∀ c, c < 256 → z_R_sortOf (nI c) = nI (knd c) := by decide +kernel
theorem knd_le (c : Nat) : 1 ≤ knd c ∧ knd c ≤ 4 := by unfold knd; split <;> (try split) <;> (try split) <;> omega
def spN (t : List Nat) : Nat → Nat → Nat
  | 0, P => P
  | f + 1, P => if chT t P = 32 then spN t f (P + 1) else P
def rnN (t : List Nat) (K : Nat) : Nat → Nat → Nat
  | 0, P => P
  | f + 1, P => if knd (chT t P) = K then rnN t K f (P + 1) else P
def vlF (t : List Nat) (K S E : Nat) : Option Nat := if K = 1 then (if E - S = 1 then some (chT t S) else none) else if K = 2 then (if E - S = 1 then some (chT t S - 48) else if E - S = 2 ∧ chT t S ≠ 48 then some (10 * (chT t S - 48) + (chT t (S + 1) - 48)) else none) else none
def tkS (t : List Nat) (P : Nat) : Nat := spN t 151 P
def tkK (t : List Nat) (P : Nat) : Nat := if t.length ≤ tkS t P then 0 else knd (chT t (tkS t P))
def enF (t : List Nat) (K S : Nat) : Nat := if K = 0 then S else if K = 1 ∨ K = 2 then rnN t K 151 S else S + 1
def tkE (t : List Nat) (P : Nat) : Nat := enF t (tkK t P) (tkS t P)
def tkV (t : List Nat) (P : Nat) : Option Nat := vlF t (tkK t P) (tkS t P) (tkE t P)
def Txt (t : List Nat) : Prop := t.length ≤ 150 ∧ ∀ c ∈ t, c < 256
theorem ch_out {t : List Nat} {j : Nat} (h : t.length ≤ j) : chT t j = 256 := by
  unfold chT
  rw [List.getElem?_eq_none h]
  rfl
theorem ch_in {t : List Nat} {j : Nat} (h : j < t.length) : t[j]? = some (chT t j) := by
  unfold chT
  rw [List.getElem?_eq_getElem h]
  rfl
theorem ch_lt {t : List Nat} (ht : Txt t) {j : Nat} (h : j < t.length) : chT t j < 256 := ht.2 _ (List.mem_of_getElem? (ch_in h))
theorem sp_ge (t : List Nat) : ∀ f P, P ≤ spN t f P
  | 0, P => Nat.le_refl P
  | f + 1, P => by
    show P ≤ (if chT t P = 32 then spN t f (P + 1) else P)
    split
    · exact Nat.le_trans (Nat.le_succ P) (sp_ge t f (P + 1))
    · exact Nat.le_refl P
theorem sp_le {t : List Nat} : ∀ f P, P ≤ t.length → spN t f P ≤ t.length
  | 0, P, h => h
  | f + 1, P, h => by
    show (if chT t P = 32 then spN t f (P + 1) else P) ≤ t.length
    by_cases q : chT t P = 32
    · rw [if_pos q]
      refine sp_le f (P + 1) ?_
      refine Decidable.byContradiction (fun c => ?_)
      rw [ch_out (by omega)] at q
      omega
    · rw [if_neg q]; exact h
theorem rn_ge (t : List Nat) (K : Nat) : ∀ f P, P ≤ rnN t K f P
  | 0, P => Nat.le_refl P
  | f + 1, P => by
    show P ≤ (if knd (chT t P) = K then rnN t K f (P + 1) else P)
    split
    · exact Nat.le_trans (Nat.le_succ P) (rn_ge t K f (P + 1))
    · exact Nat.le_refl P
theorem knd_in {t : List Nat} {K P : Nat} (hK : K ≠ 4) (h : knd (chT t P) = K) : P < t.length := by
  refine Decidable.byContradiction (fun c => ?_)
  rw [ch_out (by omega)] at h
  exact hK h.symm
theorem rn_le' {t : List Nat} {K : Nat} (hK : K ≠ 4) : ∀ f P, P ≤ t.length → rnN t K f P ≤ t.length
  | 0, P, h => h
  | f + 1, P, h => by
    show (if knd (chT t P) = K then rnN t K f (P + 1) else P) ≤ t.length
    by_cases q : knd (chT t P) = K
    · rw [if_pos q]
      exact rn_le' hK f (P + 1) (knd_in hK q)
    · rw [if_neg q]; exact h
theorem tkS_ge (t : List Nat) (P : Nat) : P ≤ tkS t P := sp_ge t 151 P
theorem tkS_le {t : List Nat} {P : Nat} (h : P ≤ t.length) : tkS t P ≤ t.length := sp_le 151 P h
theorem en_gt {t : List Nat} {S : Nat} (h : S < t.length) : S < enF t (knd (chT t S)) S ∧ enF t (knd (chT t S)) S ≤ t.length := by
  have hk := knd_le (chT t S)
  unfold enF
  rw [if_neg (by omega)]
  by_cases q : knd (chT t S) = 1 ∨ knd (chT t S) = 2
  · rw [if_pos q]
    refine ⟨?_, rn_le' (by omega) 151 S (by omega)⟩
    show S < (if knd (chT t S) = knd (chT t S) then rnN t (knd (chT t S)) 150 (S + 1) else S)
    rw [if_pos rfl]
    exact rn_ge t _ 150 (S + 1)
  · rw [if_neg q]; omega
theorem tkE_0 {t : List Nat} {P : Nat} (h : tkK t P = 0) : tkE t P = tkS t P := by
  unfold tkE enF
  rw [h, if_pos rfl]
theorem tkK_0 {t : List Nat} {P : Nat} : tkK t P = 0 ↔ t.length ≤ tkS t P := by
  unfold tkK
  by_cases q : t.length ≤ tkS t P
  · rw [if_pos q]; exact ⟨fun _ => q, fun _ => rfl⟩
  · rw [if_neg q]
    have := knd_le (chT t (tkS t P))
    exact ⟨fun h => by omega, fun h => absurd h q⟩
theorem tkK_n {t : List Nat} {P : Nat} (h : ¬ tkK t P = 0) : tkS t P < t.length ∧ tkK t P = knd (chT t (tkS t P)) := by
  rw [tkK_0] at h
  exact ⟨by omega, if_neg h⟩
theorem tkE_gt {t : List Nat} {P : Nat} (h : ¬ tkK t P = 0) : tkS t P < tkE t P ∧ tkE t P ≤ t.length := by
  obtain ⟨h1, h2⟩ := tkK_n h
  unfold tkE
  rw [h2]
  exact en_gt h1
theorem tkE_le {t : List Nat} {P : Nat} (hP : P ≤ t.length) : tkE t P ≤ t.length := by
  by_cases h : tkK t P = 0
  · rw [tkE_0 h]; exact tkS_le hP
  · exact (tkE_gt h).2
theorem tkK_le (t : List Nat) (P : Nat) : tkK t P ≤ 4 := by
  unfold tkK
  split
  · omega
  · exact (knd_le _).2
def eV (o : Option Nat) : Int32 := match o with
  | some v => nI v
  | none => -1
def TC (t : List Nat) (P : Nat) (M : Mem) : Prop := M.1 1 3 = nI (tkE t P) ∧ M.1 1 4 = nI (tkS t P) ∧ M.1 1 5 = nI (tkK t P) ∧ M.1 1 6 = eV (tkV t P)
def FT1 (M M' : Mem) : Prop := (∀ q, q ≠ 1 → M'.1 q = M.1 q) ∧ (∀ k, k < 3 ∨ 6 < k → M'.1 1 k = M.1 1 k) ∧ M'.2 = M.2
theorem FT1.refl (M : Mem) : FT1 M M := ⟨fun _ _ => rfl, fun _ _ => rfl, rfl⟩
theorem FT1.st {M M1 : Mem} (h : FT1 M M1) {k : Nat} (hk : 3 ≤ k ∧ k ≤ 6) (v : Int32) : FT1 M (wr M1 1 k v) := ⟨fun q a => by rw [wr_ne _ a]; exact h.1 q a, fun j hj => by rw [upd_row, if_neg (by omega)]; exact h.2.1 j hj, h.2.2⟩
def csum (t : List Nat) (S : Nat) : Nat → Int32
  | 0 => 0
  | j + 1 => ((csum t S j * 10) + nI (chT t (S + j))) - 48
theorem knd_2 {c : Nat} (h : knd c = 2) : 48 ≤ c ∧ c ≤ 57 := by
  unfold knd at h
  split at h
  · cases h
  · split at h
    · next q => exact q
    · split at h <;> cases h
theorem csum_1 {t : List Nat} {S : Nat} (h : knd (chT t S) = 2) : csum t S 1 = nI (chT t S - 48) := by
  have hc := knd_2 h
  show ((0 * 10) + nI (chT t S)) - nI 48 = _
  rw [Int32.zero_mul, Int32.zero_add, nI_subn (by omega) (by omega)]
theorem csum_2 {t : List Nat} {S : Nat} (h : knd (chT t S) = 2) (h' : knd (chT t (S + 1)) = 2) : csum t S 2 = nI (10 * (chT t S - 48) + (chT t (S + 1) - 48)) := by
  have hc := knd_2 h
  have hc' := knd_2 h'
  show ((csum t S 1 * nI 10) + nI (chT t (S + 1))) - nI 48 = _
  rw [csum_1 h, nI_mul, nI_add, nI_subn (by omega) (by omega)]
  congr 1
  omega
theorem tok_end {t : List Nat} {K S E : Nat} {x1 x2 : Int32} {M2 : Mem} {Q : Option Value → Mem → Prop} (hE : E ≤ 150) (hS : S < 150) (hSE : S < E) (hK : 1 ≤ K ∧ K ≤ 4) (m3 : M2.1 1 3 = nI E) (m4 : M2.1 1 4 = nI S) (m5 : M2.1 1 5 = nI K) (m6 : M2.1 1 6 = -1) (m2 : M2.1 2 S = nI (chT t S))
    (x21 : K = 2 → E - S = 1 → x2 = nI (chT t S - 48)) (x22 : K = 2 → E - S = 2 → x2 = nI (10 * (chT t S - 48) + (chT t (S + 1) - 48)) ∧ 48 ≤ chT t S ∧ chT t S ≤ 57 ∧ chT t (S + 1) ≤ 57)
    (hstop : x1 ≤ M2.1 1 3 ∨ (¬ x1 ≤ M2.1 1 3 ∧ E < 150 ∧ ¬ z_R_sortOf (M2.1 2 (M2.1 1 3).toNatClampNeg) = M2.1 1 5))
    (hQ : ∀ M', M'.1 1 3 = nI E → M'.1 1 4 = nI S → M'.1 1 5 = nI K → M'.1 1 6 = eV (vlF t K S E) → FT1 M2 M' → Q none M') : WX mi_R_readToken 2 Q 116 [some (.ref 1), some (.int x1), some (.int x2), none] [] M2 := by
  have V4 : vp_in (M2.1 1 4) 150 := by rw [m4]; exact vp_in_nI hS (by decide)
  have hstop : x1 ≤ M2.1 1 3 ∨ (¬ x1 ≤ M2.1 1 3 ∧ vp_in (M2.1 1 3) 150 ∧ ¬ z_R_sortOf (M2.1 2 (M2.1 1 3).toNatClampNeg) = M2.1 1 5) := by
    rcases hstop with h | ⟨h1, h2, h3⟩
    · exact Or.inl h
    · exact Or.inr ⟨h1, by rw [m3]; exact vp_in_nI h2 (by decide), h3⟩
  have eD : M2.1 1 3 - M2.1 1 4 = nI (E - S) := by rw [m3, m4]; exact nI_subn (by omega) (by omega)
  have stay : vlF t K S E = none → Q none M2 := fun h => hQ M2 m3 m4 m5 (by rw [h]; exact m6) (FT1.refl M2)
  have set : ∀ v x, vlF t K S E = some v → x = nI v → Q none (wr M2 1 6 x) := fun v x h hx => hQ _ (by rw [upd_row, if_neg (by decide)]; exact m3) (by rw [upd_row, if_neg (by decide)]; exact m4) (by rw [upd_row, if_neg (by decide)]; exact m5) (by rw [upd_row, if_pos rfl, h, hx]; rfl) ((FT1.refl M2).st ⟨by decide, by decide⟩ _)
  have k4 : K = 1 ∨ K = 2 ∨ K = 3 ∨ K = 4 := by omega
  rcases k4 with rfl | rfl | rfl | rfl
  · have k1 : M2.1 1 5 = 1 := m5
    have k2 : ¬ M2.1 1 5 = 2 := by rw [m5]; decide
    by_cases d : E - S = 1
    · have d1 : M2.1 1 3 - M2.1 1 4 = 1 := by rw [eD, d]; rfl
      have K := set (chT t S) (M2.1 2 (M2.1 1 4).toNatClampNeg) (by unfold vlF; rw [if_pos rfl, if_pos d]) (by rw [m4, nI_clamp (by omega)]; exact m2)
      rcases hstop with A1 | ⟨B1, V3, B2⟩
      · refine sg_R_readToken_1_116 M2 _ _ ?_ ?_ ?_ ?_ ?_ ?_ ?_ ?_ ?_ ?_ ?_ ?_ ?_ ?_ ?_ ?_ ?_ ?_ ?_ ?_ ?_ ?_ ?_ ?_ ?_ ?_ ?_ ?_ ?_ ?_ ?_ ?_ ?_ ?_ ?_
        all_goals intros
        all_goals first | with_reducible exact absurd A1 (by assumption) | with_reducible exact absurd k1 (by assumption) | with_reducible exact absurd (by assumption) k2 | with_reducible exact absurd d1 (by assumption) | with_reducible exact V4 | with_reducible exact K
      · refine sg_R_readToken_1_116 M2 _ _ ?_ ?_ ?_ ?_ ?_ ?_ ?_ ?_ ?_ ?_ ?_ ?_ ?_ ?_ ?_ ?_ ?_ ?_ ?_ ?_ ?_ ?_ ?_ ?_ ?_ ?_ ?_ ?_ ?_ ?_ ?_ ?_ ?_ ?_ ?_
        all_goals intros
        all_goals first | with_reducible exact absurd (by assumption) B1 | with_reducible exact absurd (by assumption) B2 | with_reducible exact absurd k1 (by assumption) | with_reducible exact absurd (by assumption) k2 | with_reducible exact absurd d1 (by assumption) | with_reducible exact V3 | with_reducible exact V4 | with_reducible exact K
    · have d1 : ¬ M2.1 1 3 - M2.1 1 4 = 1 := by rw [eD]; exact fun q => d ((nI_eq (b := 1) (by omega) (by decide)).mp q)
      have K := stay (by unfold vlF; rw [if_pos rfl, if_neg d])
      rcases hstop with A1 | ⟨B1, V3, B2⟩
      · refine sg_R_readToken_1_116 M2 _ _ ?_ ?_ ?_ ?_ ?_ ?_ ?_ ?_ ?_ ?_ ?_ ?_ ?_ ?_ ?_ ?_ ?_ ?_ ?_ ?_ ?_ ?_ ?_ ?_ ?_ ?_ ?_ ?_ ?_ ?_ ?_ ?_ ?_ ?_ ?_
        all_goals intros
        all_goals first | with_reducible exact absurd A1 (by assumption) | with_reducible exact absurd k1 (by assumption) | with_reducible exact absurd (by assumption) k2 | with_reducible exact absurd (by assumption) d1 | with_reducible exact V4 | with_reducible exact K
      · refine sg_R_readToken_1_116 M2 _ _ ?_ ?_ ?_ ?_ ?_ ?_ ?_ ?_ ?_ ?_ ?_ ?_ ?_ ?_ ?_ ?_ ?_ ?_ ?_ ?_ ?_ ?_ ?_ ?_ ?_ ?_ ?_ ?_ ?_ ?_ ?_ ?_ ?_ ?_ ?_
        all_goals intros
        all_goals first | with_reducible exact absurd (by assumption) B1 | with_reducible exact absurd (by assumption) B2 | with_reducible exact absurd k1 (by assumption) | with_reducible exact absurd (by assumption) k2 | with_reducible exact absurd (by assumption) d1 | with_reducible exact V3 | with_reducible exact V4 | with_reducible exact K
  · have k1 : ¬ M2.1 1 5 = 1 := by rw [m5]; decide
    have k2 : M2.1 1 5 = 2 := m5
    by_cases d : E - S = 1
    · have d1 : M2.1 1 3 - M2.1 1 4 = 1 := by rw [eD, d]; rfl
      have K := set (chT t S - 48) x2 (by unfold vlF; rw [if_neg (by decide), if_pos rfl, if_pos d]) (x21 rfl d)
      rcases hstop with A1 | ⟨B1, V3, B2⟩
      · refine sg_R_readToken_1_116 M2 _ _ ?_ ?_ ?_ ?_ ?_ ?_ ?_ ?_ ?_ ?_ ?_ ?_ ?_ ?_ ?_ ?_ ?_ ?_ ?_ ?_ ?_ ?_ ?_ ?_ ?_ ?_ ?_ ?_ ?_ ?_ ?_ ?_ ?_ ?_ ?_
        all_goals intros
        all_goals first | with_reducible exact absurd A1 (by assumption) | with_reducible exact absurd (by assumption) k1 | with_reducible exact absurd k2 (by assumption) | with_reducible exact absurd d1 (by assumption) | with_reducible exact V4 | with_reducible exact K
      · refine sg_R_readToken_1_116 M2 _ _ ?_ ?_ ?_ ?_ ?_ ?_ ?_ ?_ ?_ ?_ ?_ ?_ ?_ ?_ ?_ ?_ ?_ ?_ ?_ ?_ ?_ ?_ ?_ ?_ ?_ ?_ ?_ ?_ ?_ ?_ ?_ ?_ ?_ ?_ ?_
        all_goals intros
        all_goals first | with_reducible exact absurd (by assumption) B1 | with_reducible exact absurd (by assumption) B2 | with_reducible exact absurd (by assumption) k1 | with_reducible exact absurd k2 (by assumption) | with_reducible exact absurd d1 (by assumption) | with_reducible exact V3 | with_reducible exact V4 | with_reducible exact K
    · have d1 : ¬ M2.1 1 3 - M2.1 1 4 = 1 := by rw [eD]; exact fun q => d ((nI_eq (b := 1) (by omega) (by decide)).mp q)
      by_cases d2 : E - S = 2
      · have e2 : M2.1 1 3 - M2.1 1 4 = 2 := by rw [eD, d2]; rfl
        obtain ⟨x22, c1, c2, c3⟩ := x22 rfl d2
        by_cases d3 : chT t S = 48
        · have e3 : x2 < 10 := by rw [x22]; exact nI_lt (b := 10) (by omega) (by decide)
          have K := stay (by unfold vlF; rw [if_neg (by decide), if_pos rfl, if_neg d, if_neg (fun q => q.2 d3)])
          rcases hstop with A1 | ⟨B1, V3, B2⟩
          · refine sg_R_readToken_1_116 M2 _ _ ?_ ?_ ?_ ?_ ?_ ?_ ?_ ?_ ?_ ?_ ?_ ?_ ?_ ?_ ?_ ?_ ?_ ?_ ?_ ?_ ?_ ?_ ?_ ?_ ?_ ?_ ?_ ?_ ?_ ?_ ?_ ?_ ?_ ?_ ?_
            all_goals intros
            all_goals first | with_reducible exact absurd A1 (by assumption) | with_reducible exact absurd (by assumption) k1 | with_reducible exact absurd k2 (by assumption) | with_reducible exact absurd (by assumption) d1 | with_reducible exact absurd e2 (by assumption) | with_reducible exact absurd e3 (by assumption) | with_reducible exact V4 | with_reducible exact K
          · refine sg_R_readToken_1_116 M2 _ _ ?_ ?_ ?_ ?_ ?_ ?_ ?_ ?_ ?_ ?_ ?_ ?_ ?_ ?_ ?_ ?_ ?_ ?_ ?_ ?_ ?_ ?_ ?_ ?_ ?_ ?_ ?_ ?_ ?_ ?_ ?_ ?_ ?_ ?_ ?_
            all_goals intros
            all_goals first | with_reducible exact absurd (by assumption) B1 | with_reducible exact absurd (by assumption) B2 | with_reducible exact absurd (by assumption) k1 | with_reducible exact absurd k2 (by assumption) | with_reducible exact absurd (by assumption) d1 | with_reducible exact absurd e2 (by assumption) | with_reducible exact absurd e3 (by assumption) | with_reducible exact V3 | with_reducible exact V4 | with_reducible exact K
        · have e3 : ¬ x2 < 10 := by
            rw [x22]
            intro q
            have := (nI_lt_iff (b := 10) (by omega) (by decide)).mp q
            omega
          have K := set (10 * (chT t S - 48) + (chT t (S + 1) - 48)) x2 (by unfold vlF; rw [if_neg (by decide), if_pos rfl, if_neg d, if_pos ⟨d2, d3⟩]) x22
          rcases hstop with A1 | ⟨B1, V3, B2⟩
          · refine sg_R_readToken_1_116 M2 _ _ ?_ ?_ ?_ ?_ ?_ ?_ ?_ ?_ ?_ ?_ ?_ ?_ ?_ ?_ ?_ ?_ ?_ ?_ ?_ ?_ ?_ ?_ ?_ ?_ ?_ ?_ ?_ ?_ ?_ ?_ ?_ ?_ ?_ ?_ ?_
            all_goals intros
            all_goals first | with_reducible exact absurd A1 (by assumption) | with_reducible exact absurd (by assumption) k1 | with_reducible exact absurd k2 (by assumption) | with_reducible exact absurd (by assumption) d1 | with_reducible exact absurd e2 (by assumption) | with_reducible exact absurd (by assumption) e3 | with_reducible exact V4 | with_reducible exact K
          · refine sg_R_readToken_1_116 M2 _ _ ?_ ?_ ?_ ?_ ?_ ?_ ?_ ?_ ?_ ?_ ?_ ?_ ?_ ?_ ?_ ?_ ?_ ?_ ?_ ?_ ?_ ?_ ?_ ?_ ?_ ?_ ?_ ?_ ?_ ?_ ?_ ?_ ?_ ?_ ?_
            all_goals intros
            all_goals first | with_reducible exact absurd (by assumption) B1 | with_reducible exact absurd (by assumption) B2 | with_reducible exact absurd (by assumption) k1 | with_reducible exact absurd k2 (by assumption) | with_reducible exact absurd (by assumption) d1 | with_reducible exact absurd e2 (by assumption) | with_reducible exact absurd (by assumption) e3 | with_reducible exact V3 | with_reducible exact V4 | with_reducible exact K
      · have e2 : ¬ M2.1 1 3 - M2.1 1 4 = 2 := by rw [eD]; exact fun q => d2 ((nI_eq (b := 2) (by omega) (by decide)).mp q)
        have K := stay (by unfold vlF; rw [if_neg (by decide), if_pos rfl, if_neg d, if_neg (fun q => d2 q.1)])
        rcases hstop with A1 | ⟨B1, V3, B2⟩
        · refine sg_R_readToken_1_116 M2 _ _ ?_ ?_ ?_ ?_ ?_ ?_ ?_ ?_ ?_ ?_ ?_ ?_ ?_ ?_ ?_ ?_ ?_ ?_ ?_ ?_ ?_ ?_ ?_ ?_ ?_ ?_ ?_ ?_ ?_ ?_ ?_ ?_ ?_ ?_ ?_
          all_goals intros
          all_goals first | with_reducible exact absurd A1 (by assumption) | with_reducible exact absurd (by assumption) k1 | with_reducible exact absurd k2 (by assumption) | with_reducible exact absurd (by assumption) d1 | with_reducible exact absurd (by assumption) e2 | with_reducible exact V4 | with_reducible exact K
        · refine sg_R_readToken_1_116 M2 _ _ ?_ ?_ ?_ ?_ ?_ ?_ ?_ ?_ ?_ ?_ ?_ ?_ ?_ ?_ ?_ ?_ ?_ ?_ ?_ ?_ ?_ ?_ ?_ ?_ ?_ ?_ ?_ ?_ ?_ ?_ ?_ ?_ ?_ ?_ ?_
          all_goals intros
          all_goals first | with_reducible exact absurd (by assumption) B1 | with_reducible exact absurd (by assumption) B2 | with_reducible exact absurd (by assumption) k1 | with_reducible exact absurd k2 (by assumption) | with_reducible exact absurd (by assumption) d1 | with_reducible exact absurd (by assumption) e2 | with_reducible exact V3 | with_reducible exact V4 | with_reducible exact K
  · have k1 : ¬ M2.1 1 5 = 1 := by rw [m5]; decide
    have k2 : ¬ M2.1 1 5 = 2 := by rw [m5]; decide
    have K := stay rfl
    rcases hstop with A1 | ⟨B1, V3, B2⟩
    · refine sg_R_readToken_1_116 M2 _ _ ?_ ?_ ?_ ?_ ?_ ?_ ?_ ?_ ?_ ?_ ?_ ?_ ?_ ?_ ?_ ?_ ?_ ?_ ?_ ?_ ?_ ?_ ?_ ?_ ?_ ?_ ?_ ?_ ?_ ?_ ?_ ?_ ?_ ?_ ?_
      all_goals intros
      all_goals first | with_reducible exact absurd A1 (by assumption) | with_reducible exact absurd (by assumption) k1 | with_reducible exact absurd (by assumption) k2 | with_reducible exact V4 | with_reducible exact K
    · refine sg_R_readToken_1_116 M2 _ _ ?_ ?_ ?_ ?_ ?_ ?_ ?_ ?_ ?_ ?_ ?_ ?_ ?_ ?_ ?_ ?_ ?_ ?_ ?_ ?_ ?_ ?_ ?_ ?_ ?_ ?_ ?_ ?_ ?_ ?_ ?_ ?_ ?_ ?_ ?_
      all_goals intros
      all_goals first | with_reducible exact absurd (by assumption) B1 | with_reducible exact absurd (by assumption) B2 | with_reducible exact absurd (by assumption) k1 | with_reducible exact absurd (by assumption) k2 | with_reducible exact V3 | with_reducible exact V4 | with_reducible exact K
  · have k1 : ¬ M2.1 1 5 = 1 := by rw [m5]; decide
    have k2 : ¬ M2.1 1 5 = 2 := by rw [m5]; decide
    have K := stay rfl
    rcases hstop with A1 | ⟨B1, V3, B2⟩
    · refine sg_R_readToken_1_116 M2 _ _ ?_ ?_ ?_ ?_ ?_ ?_ ?_ ?_ ?_ ?_ ?_ ?_ ?_ ?_ ?_ ?_ ?_ ?_ ?_ ?_ ?_ ?_ ?_ ?_ ?_ ?_ ?_ ?_ ?_ ?_ ?_ ?_ ?_ ?_ ?_
      all_goals intros
      all_goals first | with_reducible exact absurd A1 (by assumption) | with_reducible exact absurd (by assumption) k1 | with_reducible exact absurd (by assumption) k2 | with_reducible exact V4 | with_reducible exact K
    · refine sg_R_readToken_1_116 M2 _ _ ?_ ?_ ?_ ?_ ?_ ?_ ?_ ?_ ?_ ?_ ?_ ?_ ?_ ?_ ?_ ?_ ?_ ?_ ?_ ?_ ?_ ?_ ?_ ?_ ?_ ?_ ?_ ?_ ?_ ?_ ?_ ?_ ?_ ?_ ?_
      all_goals intros
      all_goals first | with_reducible exact absurd (by assumption) B1 | with_reducible exact absurd (by assumption) B2 | with_reducible exact absurd (by assumption) k1 | with_reducible exact absurd (by assumption) k2 | with_reducible exact V3 | with_reducible exact V4 | with_reducible exact K
