/-! ===== yard: the model reads; printed by wip/gen/p65.py ===== -/
def RDm (d : Dr) (M : Mem) : Prop := (M.1 39 1 = nI (pW d.1) ∧ M.1 40 1 = nI (pR d.1) ∧ M.1 43 1 = nI (pO d.1) ∧ M.1 41 1 = sI (pL d.1) ∧ M.1 42 1 = sI (pD d.1)) ∧ (∀ k, k < 16 → thr d.1 k = true → M.1 44 k = nI (d.2.1 k)) ∧ (∀ z, z < 4 → M.1 45 z = nI (d.2.2.1 z)) ∧ (M.1 37 11 = bI d.2.2.2.1 ∧ M.1 37 12 = bI d.2.2.2.2.1 ∧ M.1 37 10 = bI d.2.2.2.2.2)
def FDm (M M' : Mem) : Prop := (∀ q, q ≠ 37 → q < 39 ∨ 45 < q → M'.1 q = M.1 q) ∧ (∀ q, 39 ≤ q → q ≤ 43 → M'.1 q 0 = M.1 q 0) ∧ (∀ k, k < 10 ∨ 17 < k → M'.1 37 k = M.1 37 k) ∧ M'.2 = M.2
theorem FDm.refl (M : Mem) : FDm M M := ⟨fun _ _ _ => rfl, fun _ _ _ => rfl, fun _ _ => rfl, rfl⟩
theorem FDm.trans {M M1 M2 : Mem} (h : FDm M M1) (h' : FDm M1 M2) : FDm M M2 := ⟨fun q a b => by rw [h'.1 q a b, h.1 q a b], fun q a b => by rw [h'.2.1 q a b, h.2.1 q a b], fun k hk => by rw [h'.2.2.1 k hk, h.2.2.1 k hk], by rw [h'.2.2.2, h.2.2.2]⟩
theorem FT7.fd {M M' : Mem} (h : FT7 M M') : FDm M M' := ⟨fun q a _ => h.1 q a, fun q a b => by rw [h.1 q (by omega)], fun k hk => h.2.1 k (by omega), h.2.2⟩
theorem FDm.s7 {M M1 : Mem} (h : FDm M M1) {k : Nat} (hk : 10 ≤ k ∧ k ≤ 17) (v : Int32) : FDm M (wr M1 37 k v) := ⟨fun q a b => by rw [wr_ne _ a]; exact h.1 q a b, fun q a b => by rw [wr_ne _ (by omega)]; exact h.2.1 q a b, fun j hj => by rw [upd_row, if_neg (by omega)]; exact h.2.2.1 j hj, h.2.2.2⟩
theorem FDm.s1 {M M1 : Mem} (h : FDm M M1) {r : Nat} (hr : 39 ≤ r ∧ r ≤ 43) (v : Int32) : FDm M (wr M1 r 1 v) := ⟨fun q a b => by rw [wr_ne _ (by omega)]; exact h.1 q a b, fun q a b => by
  by_cases e : q = r
  · rw [e, upd_row, if_neg (by decide), ← e]; exact h.2.1 q a b
  · rw [wr_ne _ e]; exact h.2.1 q a b, fun j hj => by rw [wr_ne _ (by omega)]; exact h.2.2.1 j hj, h.2.2.2⟩
theorem FDm.s4 {M M1 : Mem} (h : FDm M M1) {r : Nat} (hr : 44 ≤ r ∧ r ≤ 45) (k : Nat) (v : Int32) : FDm M (wr M1 r k v) := ⟨fun q a b => by rw [wr_ne _ (by omega)]; exact h.1 q a b, fun q a b => by rw [wr_ne _ (by omega)]; exact h.2.1 q a b, fun j hj => by rw [wr_ne _ (by omega)]; exact h.2.2.1 j hj, h.2.2.2⟩
theorem RMt.fd {t : List Nat} {M M' : Mem} (h : RMt t M) (hf : FDm M M') : RMt t M' := ⟨by rw [hf.2.2.1 2 (by decide)]; exact h.1, fun j c hj => by rw [hf.1 38 (by decide) (by decide)]; exact h.2 j c hj⟩
theorem RDm.ft {d : Dr} {M M' : Mem} (h : RDm d M) (hf : FT7 M M') : RDm d M' := by
  obtain ⟨⟨a1, a2, a3, a4, a5⟩, b, c, e1, e2, e3⟩ := h
  refine ⟨⟨?_, ?_, ?_, ?_, ?_⟩, fun k hk ht => ?_, fun z hz => ?_, ?_, ?_, ?_⟩
  · rw [hf.1 39 (by decide)]; exact a1
  · rw [hf.1 40 (by decide)]; exact a2
  · rw [hf.1 43 (by decide)]; exact a3
  · rw [hf.1 41 (by decide)]; exact a4
  · rw [hf.1 42 (by decide)]; exact a5
  · rw [hf.1 44 (by decide)]; exact b k hk ht
  · rw [hf.1 45 (by decide)]; exact c z hz
  · rw [hf.2.1 11 (by decide)]; exact e1
  · rw [hf.2.1 12 (by decide)]; exact e2
  · rw [hf.2.1 10 (by decide)]; exact e3
theorem TM.keep {t : List Nat} {P : Nat} {M : Mem} (h : TM t P M) {r k : Nat} (hr : r ≠ 37 ∨ (k < 13 ∨ 16 < k)) (v : Int32) : TM t P (wr M r k v) := by
  have e : ∀ j, 13 ≤ j → j ≤ 16 → (wr M r k v).1 37 j = M.1 37 j := fun j a b => by
    by_cases q : r = 37
    · rw [q, upd_row, if_neg (by omega)]
    · rw [wr_ne _ (by omega)]
  obtain ⟨a, b, c, d⟩ := h
  exact ⟨by rw [e 13 (by decide) (by decide)]; exact a, by rw [e 14 (by decide) (by decide)]; exact b, by rw [e 15 (by decide) (by decide)]; exact c, fun hk v' hv => by rw [e 16 (by decide) (by decide)]; exact d hk v' hv⟩
theorem knd_1 {c : Nat} (h : knd c = 1) : 97 ≤ c ∧ c ≤ 122 := by
  unfold knd at h
  split at h
  · next q => exact q
  · split at h
    · cases h
    · split at h <;> cases h
theorem tkV_w {t : List Nat} {P c : Nat} (hk : tkK t P = 1) (hv : tkV t P = some c) : 97 ≤ c ∧ c ≤ 122 := by
  have h0 : ¬ tkK t P = 0 := by rw [hk]; decide
  obtain ⟨h1, h2⟩ := tkK_n h0
  unfold tkV vlF at hv
  rw [hk, if_pos rfl] at hv
  by_cases q : tkE t P - tkS t P = 1
  · rw [if_pos q] at hv
    cases hv
    exact knd_1 (by rw [← h2]; exact hk)
  · rw [if_neg q] at hv; cases hv
theorem tkV_n {t : List Nat} {P : Nat} (h1 : ¬ tkK t P = 1) (h2 : ¬ tkK t P = 2) : tkV t P = none := by
  unfold tkV vlF
  rw [if_neg h1, if_neg h2]
/-- the model's sort of a token -/
theorem mS_all (t : List Nat) (P : Nat) : (mS (tkK t P) (tkV t P) = 3 ↔ tkK t P = 0) ∧ (mS (tkK t P) (tkV t P) = 2 ↔ tkK t P = 3) ∧ (mS (tkK t P) (tkV t P) = 1 ↔ (tkK t P = 2 ∧ ∃ v, tkV t P = some v)) ∧ ((mS (tkK t P) (tkV t P) = 1 ∨ mS (tkK t P) (tkV t P) = 2 ∨ mS (tkK t P) (tkV t P) = 3 ∨ mS (tkK t P) (tkV t P) = 4) ∨ (tkK t P = 1 ∧ ∃ c, tkV t P = some c ∧ mS (tkK t P) (tkV t P) = nI c)) := by
  have h4 := tkK_le t P
  have k5 : tkK t P = 0 ∨ tkK t P = 1 ∨ tkK t P = 2 ∨ tkK t P = 3 ∨ tkK t P = 4 := by omega
  rcases k5 with k | k | k | k | k
  · rw [k]
    have e : mS 0 (tkV t P) = 3 := rfl
    rw [e]
    exact ⟨⟨fun _ => rfl, fun _ => rfl⟩, ⟨fun h => absurd h (by decide), fun h => absurd h (by decide)⟩, ⟨fun h => absurd h (by decide), fun h => absurd h.1 (by decide)⟩, Or.inl (Or.inr (Or.inr (Or.inl rfl)))⟩
  · cases hv : tkV t P with
    | none =>
      rw [k]
      have e : mS 1 none = 4 := rfl
      rw [e]
      exact ⟨⟨fun h => absurd h (by decide), fun h => absurd h (by decide)⟩, ⟨fun h => absurd h (by decide), fun h => absurd h (by decide)⟩, ⟨fun h => absurd h (by decide), fun h => absurd h.1 (by decide)⟩, Or.inl (Or.inr (Or.inr (Or.inr rfl)))⟩
    | some c =>
      have hc := tkV_w k hv
      rw [k]
      have e : mS 1 (some c) = nI c := rfl
      rw [e]
      have n : ∀ l, l < 97 → ¬ nI c = nI l := fun l hl q => by
        have := (nI_eq (by omega) (by omega)).mp q
        omega
      exact ⟨⟨fun h => absurd h (n 3 (by decide)), fun h => absurd h (by decide)⟩, ⟨fun h => absurd h (n 2 (by decide)), fun h => absurd h (by decide)⟩, ⟨fun h => absurd h (n 1 (by decide)), fun h => absurd h.1 (by decide)⟩, Or.inr ⟨rfl, c, rfl, rfl⟩⟩
  · cases hv : tkV t P with
    | none =>
      rw [k]
      have e : mS 2 none = 4 := rfl
      rw [e]
      exact ⟨⟨fun h => absurd h (by decide), fun h => absurd h (by decide)⟩, ⟨fun h => absurd h (by decide), fun h => absurd h (by decide)⟩, ⟨fun h => absurd h (by decide), fun h => by obtain ⟨_, v, hv'⟩ := h; cases hv'⟩, Or.inl (Or.inr (Or.inr (Or.inr rfl)))⟩
    | some c =>
      rw [k]
      have e : mS 2 (some c) = 1 := rfl
      rw [e]
      exact ⟨⟨fun h => absurd h (by decide), fun h => absurd h (by decide)⟩, ⟨fun h => absurd h (by decide), fun h => absurd h (by decide)⟩, ⟨fun _ => ⟨rfl, c, rfl⟩, fun _ => rfl⟩, Or.inl (Or.inl rfl)⟩
  · rw [k]
    have e : mS 3 (tkV t P) = 2 := rfl
    rw [e]
    exact ⟨⟨fun h => absurd h (by decide), fun h => absurd h (by decide)⟩, ⟨fun _ => rfl, fun _ => rfl⟩, ⟨fun h => absurd h (by decide), fun h => absurd h.1 (by decide)⟩, Or.inl (Or.inr (Or.inl rfl))⟩
  · have hv := tkV_n (t := t) (P := P) (by omega) (by omega)
    rw [k, hv]
    have e : mS 4 none = 4 := rfl
    rw [e]
    exact ⟨⟨fun h => absurd h (by decide), fun h => absurd h (by decide)⟩, ⟨fun h => absurd h (by decide), fun h => absurd h (by decide)⟩, ⟨fun h => absurd h (by decide), fun h => absurd h.1 (by decide)⟩, Or.inl (Or.inr (Or.inr (Or.inr rfl)))⟩
/-- due, where all is well so far -/
theorem due_1 {t : List Nat} (ht : Txt t) {P : Nat} {M : Mem} {Q : Option Value → Mem → Prop} (hr : RMt t M) (hm : TM t P M) (h9 : M.1 37 17 = -9) (hP : P ≤ t.length) (hQ : ∀ M', TM t (tkE t P) M' → FT7 M M' → Q (some (.int (M.1 37 16))) M') : WX mi_M_due 3 Q 0 [some (.ref 37), some (.int 1), none] [] M := by
  refine sg_M_due_37_0 M _ (fun c => absurd h9 c) (fun _ c => absurd c (by decide)) (fun _ _ => ?_)
  refine wx_step ht hr hm.1 (tkE_le hP) (fun M1 a b => ?_)
  exact sg_M_due_37_22 M1 _ _ (hQ M1 a b)
theorem due_0 {t : List Nat} {P : Nat} {M : Mem} {Q : Option Value → Mem → Prop} (hm : TM t P M) (h9 : M.1 37 17 = -9) (hQ : Q (some (.int (M.1 37 16))) (wr M 37 17 (nI (tkS t P)))) : WX mi_M_due 3 Q 0 [some (.ref 37), some (.int 0), none] [] M := by
  refine sg_M_due_37_0 M _ (fun c => absurd h9 c) (fun _ _ => ?_) (fun _ c => absurd rfl c)
  rw [hm.2.1]
  exact hQ
theorem due_x {M : Mem} {Q : Option Value → Mem → Prop} {x : Int32} (h9 : ¬ M.1 37 17 = -9) (hQ : Q (some (.int (M.1 37 16))) M) : WX mi_M_due 3 Q 0 [some (.ref 37), some (.int x), none] [] M :=
  sg_M_due_37_0 M _ (fun _ => hQ) (fun c => absurd c h9) (fun c => absurd c h9)
theorem num_x {M : Mem} {Q : Option Value → Mem → Prop} {lo hi : Int32} (h9 : ¬ M.1 37 17 = -9) (hQ : Q (some (.int (M.1 37 16))) M) : WX mi_M_number 4 Q 0 [some (.ref 37), some (.int lo), some (.int hi)] [] M :=
  sg_M_number_37_0 M _ _ (fun _ => due_x h9 (sg_M_number_37_29 M _ _ _ hQ)) (fun _ _ => due_x h9 (sg_M_number_37_29 M _ _ _ hQ)) (fun _ _ => due_x h9 (sg_M_number_37_29 M _ _ _ hQ))
theorem wx_numM {t : List Nat} (ht : Txt t) {P l n : Nat} {lo hi : Int32} {M : Mem} {Q : Option Value → Mem → Prop} (hr : RMt t M) (hm : TM t P M) (h9 : M.1 37 17 = -9) (hP : P ≤ t.length) (hb : ∀ v, v < 1000 → (nI v < lo ↔ v < l) ∧ (hi < nI v ↔ n ≤ v))
    (h1 : ∀ v M', nmF t P l n = some v → TM t (tkE t P) M' → FT7 M M' → Q (some (.int (nI v))) M') (h2 : ∀ r, nmF t P l n = none → Q (some (.int r)) (wr M 37 17 (nI (tkS t P)))) : WX mi_M_number 4 Q 0 [some (.ref 37), some (.int lo), some (.int hi)] [] M := by
  have a := (mS_all t P).2.2.1
  rw [← hm.2.2.1] at a
  refine sg_M_number_37_0 M _ _ (fun c => ?_) (fun c c2 => ?_) (fun c c2 => ?_)
  · refine due_0 hm h9 (sg_M_number_37_29 _ _ _ _ (h2 _ ?_))
    rw [a] at c
    by_cases k : tkK t P = 2
    · cases hv : tkV t P with
      | none => exact nm_v hv
      | some v => exact absurd ⟨k, v, hv⟩ c
    · exact nm_k k
  · obtain ⟨k, v, hv⟩ := a.mp c
    have ev := hm.2.2.2 k v hv
    refine due_0 hm h9 (sg_M_number_37_29 _ _ _ _ (h2 _ (nm_no hv (fun q => ?_))))
    have b := hb v (tkV_lt hv k)
    rw [ev] at c2
    unfold z_M_in at c2
    rw [if_neg (fun z => by have := b.1.mp z; omega), if_neg (fun z => by have := b.2.mp z; omega)] at c2
    exact absurd c2 (by decide)
  · obtain ⟨k, v, hv⟩ := a.mp c
    have ev := hm.2.2.2 k v hv
    have b := hb v (tkV_lt hv k)
    have hn : nmF t P l n = some v := by
      rw [ev] at c2
      unfold z_M_in at c2
      by_cases z : nI v < lo
      · rw [if_pos z] at c2; exact absurd rfl c2
      · rw [if_neg z] at c2
        by_cases z2 : hi < nI v
        · rw [if_pos z2] at c2; exact absurd rfl c2
        · rw [b.1] at z
          rw [b.2] at z2
          exact nm_of hv k (by omega) (by omega)
    refine due_1 ht hr hm h9 hP (fun M1 e1 e2 => ?_)
    rw [ev]
    exact sg_M_number_37_29 M1 _ _ _ (h1 v M1 hn e1 e2)
def OutM (Q : Option Value → Mem → Prop) (t : List Nat) (M : Mem) (r : Nat ⊕ (Nat × Dr)) : Prop := (∀ e M', r = .inl e → M'.1 37 17 = nI e → FDm M M' → Q none M') ∧ (∀ P' d' M', r = .inr (P', d') → TM t P' M' → M'.1 37 17 = -9 → RDm d' M' → FDm M M' → Q none M')
theorem fnine {e : Nat} (h : e ≤ 150) : ¬ nI e = -9 := nI_nm9 (by omega)
theorem wid_M {t : List Nat} (ht : Txt t) {P : Nat} {d : Dr} {M : Mem} {Q : Option Value → Mem → Prop} (hR : pR d.1 = 0) (hr : RMt t M) (hm : TM t P M) (h9 : M.1 37 17 = -9) (hP : P ≤ t.length) (hd : RDm d M) (hQ : OutM Q t M (widF t P d)) : WX mi_M_readRow 5 Q 0 [some (.ref 37), some (.int (nI 119)), none, none, none] [] M := by
  refine sg_M_readRow_37_0 M _ (fun c => absurd c (by decide)) (fun c => absurd c (by decide)) (fun _ => ?_) (fun _ _ c => absurd rfl c)
  refine wx_numM (l := 1) (n := 5) ht hr hm h9 hP bnd_4 (fun v M1 e a f => ?_) (fun r e => ?_)
  · refine sg_M_readRow_37_47 M1 _ _ _ (vp_in_nI (n := 1) (by decide) (by decide)) ?_
    have hd1 := hd.ft f
    obtain ⟨⟨a1, a2, a3, a4, a5⟩, b', c', e'⟩ := hd1
    refine hQ.2 (tkE t P) ((v, pR d.1, pL d.1, pD d.1, pO d.1), d.2) _ (by unfold widF; rw [e]) (a.keep (Or.inl (by decide)) _) (by rw [wr_ne _ (by decide), f.2.1 17 (by decide)]; exact h9) ⟨⟨?_, by rw [wr_ne _ (by decide)]; exact a2, by rw [wr_ne _ (by decide)]; exact a3, by rw [wr_ne _ (by decide)]; exact a4, by rw [wr_ne _ (by decide)]; exact a5⟩, fun k hk ht' => ?_, fun k hk => by rw [wr_ne _ (by decide)]; exact c' k hk, by rw [wr_ne _ (by decide)]; exact e'⟩ (f.fd.s1 ⟨by decide, by decide⟩ _)
    · show (wr M1 39 1 (nI v)).1 39 1 = nI v
      rw [upd_row, if_pos rfl]
    · exfalso
      unfold thr at ht'
      have : ¬ k / 4 < pR (v, pR d.1, pL d.1, pD d.1, pO d.1) := by
        show ¬ k / 4 < pR d.1
        omega
      rw [decide_eq_false this, Bool.and_false] at ht'
      cases ht'
  · refine sg_M_readRow_37_47 _ _ _ _ (vp_in_nI (n := 1) (by decide) (by decide)) ?_
    exact hQ.1 (tkS t P) _ (by unfold widF; rw [e]) (by rw [wr_ne _ (by decide), upd_row, if_pos rfl]) (((FDm.refl M).s7 ⟨by decide, by decide⟩ _).s1 ⟨by decide, by decide⟩ _)
theorem row_b {c W R : Nat} (hW : W ≤ 4) (hR : R < 4) {Q : Option Value → Mem → Prop} : ∀ n x (M : Mem), x + n = W → M.1 39 1 = nI W → M.1 40 1 = nI R → ¬ M.1 37 17 = -9 → (∀ M', M'.1 37 17 = M.1 37 17 → FDm M M' → Q none M') → WX mi_M_readRow 5 Q 54 [some (.ref 37), some (.int (nI c)), none, none, some (.int (nI x))] [] M := by
  intro n
  induction n with
  | zero =>
    intro x M hx a1 a2 h9 hQ
    have hle : M.1 39 1 ≤ nI x := by rw [a1, show x = W by omega]; exact Int32.le_refl _
    exact sg_M_readRow_37_54 M _ _ (fun _ => hQ _ (by rw [wr_ne _ (by decide)]) ((FDm.refl M).s1 ⟨by decide, by decide⟩ _)) (fun q => absurd hle q)
  | succ n ih =>
    intro x M hx a1 a2 h9 hQ
    have nle : ¬ M.1 39 1 ≤ nI x := by
      rw [a1]
      intro q
      have := (nI_le_iff (by omega) (by omega)).mp q
      omega
    refine sg_M_readRow_37_54 M _ _ (fun q => absurd q nle) (fun _ => ?_)
    refine num_x h9 ?_
    have es : (4 * M.1 40 1) + nI x = nI (4 * R + x) := by rw [a2, show (4 : Int32) = nI 4 from rfl, nI_mul, nI_add]
    refine sg_M_readRow_37_87 M _ _ _ _ (by rw [es]; exact vp_in_nI (by omega) (by decide)) ?_
    rw [nI_1]
    refine ih (x + 1) _ (by omega) (by rw [wr_ne _ (by decide)]; exact a1) (by rw [wr_ne _ (by decide)]; exact a2) (by rw [wr_ne _ (by decide)]; exact h9) (fun M' e f => hQ M' (by rw [e, wr_ne _ (by decide)]) (((FDm.refl M).s4 ⟨by decide, by decide⟩ _ _).trans f))
theorem row_M {t : List Nat} (ht : Txt t) {c : Nat} {d : Dr} {M0 : Mem} {Q : Option Value → Mem → Prop} (hW : pW d.1 ≤ 4) (hR : pR d.1 < 4) (P0 : Nat) : ∀ n x P H (M : Mem), x + n = pW d.1 → P ≤ t.length → RMt t M → TM t P M → M.1 37 17 = -9 → RDm d M → (∀ k, k < 16 → thr d.1 k = true ∨ (4 * pR d.1 ≤ k ∧ k < 4 * pR d.1 + x) → M.1 44 k = nI (H k)) → FDm M0 M → rowF t (pR d.1) (pW d.1) 0 P0 d.2.1 = rowF t (pR d.1) n x P H → OutM Q t M0 (rwsF t P0 d) →
    WX mi_M_readRow 5 Q 54 [some (.ref 37), some (.int (nI c)), none, none, some (.int (nI x))] [] M := by
  intro n
  induction n with
  | zero =>
    intro x P H M hx hP hr hm h9 hd hH hf he hQ
    obtain ⟨⟨a1, a2, a3, a4, a5⟩, b', c', e'⟩ := hd
    have hle : M.1 39 1 ≤ nI x := by rw [a1, show x = pW d.1 by omega]; exact Int32.le_refl _
    refine sg_M_readRow_37_54 M _ _ (fun _ => ?_) (fun q => absurd hle q)
    have he : rowF t (pR d.1) (pW d.1) 0 P0 d.2.1 = .inr (P, H) := he
    refine hQ.2 P ((pW d.1, pR d.1 + 1, pL d.1, pD d.1, pO d.1), H, d.2.2) _ (by unfold rwsF; rw [he]) (hm.keep (Or.inl (by decide)) _) (by rw [wr_ne _ (by decide)]; exact h9) ⟨⟨by rw [wr_ne _ (by decide)]; exact a1, ?_, by rw [wr_ne _ (by decide)]; exact a3, by rw [wr_ne _ (by decide)]; exact a4, by rw [wr_ne _ (by decide)]; exact a5⟩, fun k hk ht' => ?_, fun k hk => by rw [wr_ne _ (by decide)]; exact c' k hk, by rw [wr_ne _ (by decide)]; exact e'⟩ (hf.s1 ⟨by decide, by decide⟩ _)
    · rw [upd_row, if_pos rfl, a2, nI_1]; rfl
    · rw [wr_ne _ (by decide)]
      refine hH k hk ?_
      unfold thr at ht' ⊢
      rw [Bool.and_eq_true, decide_eq_true_eq, decide_eq_true_eq] at ht' ⊢
      have t1' : k % 4 < pW d.1 := ht'.1
      have t2' : k / 4 < pR d.1 + 1 := ht'.2
      by_cases q : k / 4 < pR d.1
      · exact Or.inl ⟨t1', q⟩
      · exact Or.inr ⟨by omega, by omega⟩
  | succ n ih =>
    intro x P H M hx hP hr hm h9 hd hH hf he hQ
    have a1 := hd.1.1
    have a2 := hd.1.2.1
    have nle : ¬ M.1 39 1 ≤ nI x := by
      rw [a1]
      intro q
      have := (nI_le_iff (by omega) (by omega)).mp q
      omega
    have he : rowF t (pR d.1) (pW d.1) 0 P0 d.2.1 = (match nmF t P 0 10 with | none => .inl (tkS t P) | some v => rowF t (pR d.1) n (x + 1) (tkE t P) (updN H (4 * pR d.1 + x) v)) := he
    have es : (4 * M.1 40 1) + nI x = nI (4 * pR d.1 + x) := by rw [a2, show (4 : Int32) = nI 4 from rfl, nI_mul, nI_add]
    refine sg_M_readRow_37_54 M _ _ (fun q => absurd q nle) (fun _ => ?_)
    refine wx_numM (l := 0) (n := 10) ht hr hm h9 hP bnd_9 (fun v M1 e a f => ?_) (fun r e => ?_)
    · rw [e] at he
      refine sg_M_readRow_37_87 M1 _ _ _ _ (by rw [es]; exact vp_in_nI (by omega) (by decide)) ?_
      rw [es, nI_1, nI_clamp (by omega)]
      have s := nm_step e
      have f1 : FDm M1 (wr M1 44 (4 * pR d.1 + x) (nI v)) := (FDm.refl M1).s4 ⟨by decide, by decide⟩ _ _
      have hd1 := hd.ft f
      have nt : ∀ k, thr d.1 k = true → ¬ k = 4 * pR d.1 + x := fun k hk q => by
        unfold thr at hk
        rw [q, decide_eq_false (show ¬ (4 * pR d.1 + x) / 4 < pR d.1 by omega), Bool.and_false] at hk
        cases hk
      refine ih (x + 1) (tkE t P) (updN H (4 * pR d.1 + x) v) _ (by omega) s.2 ((hr.ft f).fd f1) (a.keep (Or.inl (by decide)) _) (by rw [wr_ne _ (by decide), f.2.1 17 (by decide)]; exact h9) ?_ (fun k hk hk2 => ?_) (hf.trans (f.fd.trans f1)) he hQ
      · obtain ⟨⟨b1, b2, b3, b4, b5⟩, b', c', e'⟩ := hd1
        refine ⟨⟨by rw [wr_ne _ (by decide)]; exact b1, by rw [wr_ne _ (by decide)]; exact b2, by rw [wr_ne _ (by decide)]; exact b3, by rw [wr_ne _ (by decide)]; exact b4, by rw [wr_ne _ (by decide)]; exact b5⟩, fun k hk ht' => ?_, fun k hk => by rw [wr_ne _ (by decide)]; exact c' k hk, by rw [wr_ne _ (by decide)]; exact e'⟩
        rw [upd_row, if_neg (nt k ht')]
        exact b' k hk ht'
      · rw [upd_row]
        show _ = nI (if k = 4 * pR d.1 + x then v else H k)
        by_cases q : k = 4 * pR d.1 + x
        · rw [if_pos q, if_pos q]
        · rw [if_neg q, if_neg q, f.1 44 (by decide)]
          refine hH k hk ?_
          rcases hk2 with h | h
          · exact Or.inl h
          · exact Or.inr ⟨h.1, by omega⟩
    · rw [e] at he
      have hS := tkS_le (t := t) hP
      have hl := ht.1
      refine sg_M_readRow_37_87 _ _ _ _ _ (by rw [es]; exact vp_in_nI (by omega) (by decide)) ?_
      rw [nI_1]
      have f2 : FDm M (wr (wr M 37 17 (nI (tkS t P))) 44 ((4 * M.1 40 1) + nI x).toNatClampNeg r) := ((FDm.refl M).s7 ⟨by decide, by decide⟩ _).s4 ⟨by decide, by decide⟩ _ _
      have e17 : (wr (wr M 37 17 (nI (tkS t P))) 44 ((4 * M.1 40 1) + nI x).toNatClampNeg r).1 37 17 = nI (tkS t P) := by rw [wr_ne _ (by decide), upd_row, if_pos rfl]
      refine row_b (W := pW d.1) (R := pR d.1) hW hR n (x + 1) _ (by omega) (by rw [wr_ne _ (by decide), wr_ne _ (by decide)]; exact a1) (by rw [wr_ne _ (by decide), wr_ne _ (by decide)]; exact a2) (by rw [e17]; exact fnine (by omega)) (fun M' g1 g2 => ?_)
      exact hQ.1 (tkS t P) M' (by unfold rwsF; rw [he]) (by rw [g1, e17]) (hf.trans (f2.trans g2))
theorem sto_b {c : Nat} {Q : Option Value → Mem → Prop} : ∀ n x (M : Mem), x + n = 4 → ¬ M.1 37 17 = -9 → (∀ M', M'.1 37 17 = M.1 37 17 → FDm M M' → Q none M') → WX mi_M_readRow 5 Q 110 [some (.ref 37), some (.int (nI c)), none, none, some (.int (nI x))] [] M := by
  intro n
  induction n with
  | zero =>
    intro x M hx h9 hQ
    have hle : (4 : Int32) ≤ nI x := by rw [show x = 4 by omega]; decide
    exact sg_M_readRow_37_110 M _ _ (fun _ => hQ _ (by rw [upd_row, if_neg (by decide)]) ((FDm.refl M).s7 ⟨by decide, by decide⟩ _)) (fun q => absurd hle q)
  | succ n ih =>
    intro x M hx h9 hQ
    have nle : ¬ (4 : Int32) ≤ nI x := Int32.not_le.mpr (nI_lt (b := 4) (by omega) (by decide))
    refine sg_M_readRow_37_110 M _ _ (fun q => absurd q nle) (fun _ => ?_)
    refine num_x h9 ?_
    refine sg_M_readRow_37_129 M _ _ _ _ (vp_in_nI (by omega) (by decide)) ?_
    rw [nI_1]
    refine ih (x + 1) _ (by omega) (by rw [wr_ne _ (by decide)]; exact h9) (fun M' e f => hQ M' (by rw [e, wr_ne _ (by decide)]) (((FDm.refl M).s4 ⟨by decide, by decide⟩ _ _).trans f))
theorem sto_M {t : List Nat} (ht : Txt t) {c : Nat} {d : Dr} {M0 : Mem} {Q : Option Value → Mem → Prop} (P0 : Nat) : ∀ n x P H (M : Mem), x + n = 4 → P ≤ t.length → RMt t M → TM t P M → M.1 37 17 = -9 → RDm (d.1, d.2.1, H, d.2.2.2) M → FDm M0 M → stoF t 4 0 P0 d.2.2.1 = stoF t n x P H → OutM Q t M0 (stkF t P0 d) →
    WX mi_M_readRow 5 Q 110 [some (.ref 37), some (.int (nI c)), none, none, some (.int (nI x))] [] M := by
  intro n
  induction n with
  | zero =>
    intro x P H M hx hP hr hm h9 hd hf he hQ
    obtain ⟨⟨a1, a2, a3, a4, a5⟩, b', c', e1, e2, e3⟩ := hd
    have hle : (4 : Int32) ≤ nI x := by rw [show x = 4 by omega]; decide
    refine sg_M_readRow_37_110 M _ _ (fun _ => ?_) (fun q => absurd hle q)
    have he : stoF t 4 0 P0 d.2.2.1 = .inr (P, H) := he
    exact hQ.2 P (d.1, d.2.1, H, (d.2.2.2.1, true, d.2.2.2.2.2)) _ (by unfold stkF; rw [he]) (hm.keep (Or.inr (Or.inl (by decide))) _) (by rw [upd_row, if_neg (by decide)]; exact h9) ⟨⟨by rw [wr_ne _ (by decide)]; exact a1, by rw [wr_ne _ (by decide)]; exact a2, by rw [wr_ne _ (by decide)]; exact a3, by rw [wr_ne _ (by decide)]; exact a4, by rw [wr_ne _ (by decide)]; exact a5⟩, fun k hk ht' => by rw [wr_ne _ (by decide)]; exact b' k hk ht', fun k hk => by rw [wr_ne _ (by decide)]; exact c' k hk, by rw [upd_row, if_neg (by decide)]; exact e1, by rw [upd_row, if_pos rfl]; rfl, by rw [upd_row, if_neg (by decide)]; exact e3⟩ (hf.s7 ⟨by decide, by decide⟩ _)
  | succ n ih =>
    intro x P H M hx hP hr hm h9 hd hf he hQ
    have nle : ¬ (4 : Int32) ≤ nI x := Int32.not_le.mpr (nI_lt (b := 4) (by omega) (by decide))
    have he : stoF t 4 0 P0 d.2.2.1 = (match nmF t P 0 21 with | none => .inl (tkS t P) | some v => stoF t n (x + 1) (tkE t P) (updN H x v)) := he
    refine sg_M_readRow_37_110 M _ _ (fun q => absurd q nle) (fun _ => ?_)
    refine wx_numM (l := 0) (n := 21) ht hr hm h9 hP bnd_20 (fun v M1 e a f => ?_) (fun r e => ?_)
    · rw [e] at he
      refine sg_M_readRow_37_129 M1 _ _ _ _ (vp_in_nI (by omega) (by decide)) ?_
      rw [nI_1, nI_clamp (by omega)]
      have s := nm_step e
      have f1 : FDm M1 (wr M1 45 x (nI v)) := (FDm.refl M1).s4 ⟨by decide, by decide⟩ _ _
      have hd1 := hd.ft f
      refine ih (x + 1) (tkE t P) (updN H x v) _ (by omega) s.2 ((hr.ft f).fd f1) (a.keep (Or.inl (by decide)) _) (by rw [wr_ne _ (by decide), f.2.1 17 (by decide)]; exact h9) ?_ (hf.trans (f.fd.trans f1)) he hQ
      obtain ⟨⟨b1, b2, b3, b4, b5⟩, b', c', e'⟩ := hd1
      refine ⟨⟨by rw [wr_ne _ (by decide)]; exact b1, by rw [wr_ne _ (by decide)]; exact b2, by rw [wr_ne _ (by decide)]; exact b3, by rw [wr_ne _ (by decide)]; exact b4, by rw [wr_ne _ (by decide)]; exact b5⟩, fun k hk ht' => by rw [wr_ne _ (by decide)]; exact b' k hk ht', fun k hk => ?_, by rw [wr_ne _ (by decide)]; exact e'⟩
      rw [upd_row]
      show _ = nI (if k = x then v else H k)
      by_cases q : k = x
      · rw [if_pos q, if_pos q]
      · rw [if_neg q, if_neg q]; exact c' k hk
    · rw [e] at he
      have hS := tkS_le (t := t) hP
      have hl := ht.1
      refine sg_M_readRow_37_129 _ _ _ _ _ (vp_in_nI (by omega) (by decide)) ?_
      rw [nI_1]
      have f2 : FDm M (wr (wr M 37 17 (nI (tkS t P))) 45 (nI x).toNatClampNeg r) := ((FDm.refl M).s7 ⟨by decide, by decide⟩ _).s4 ⟨by decide, by decide⟩ _ _
      have e17 : (wr (wr M 37 17 (nI (tkS t P))) 45 (nI x).toNatClampNeg r).1 37 17 = nI (tkS t P) := by rw [wr_ne _ (by decide), upd_row, if_pos rfl]
      refine sto_b n (x + 1) _ (by omega) (by rw [e17]; exact fnine (by omega)) (fun M' g1 g2 => ?_)
      exact hQ.1 (tkS t P) M' (by unfold stkF; rw [he]) (by rw [g1, e17]) (hf.trans (f2.trans g2))
