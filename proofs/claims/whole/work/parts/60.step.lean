/-! ===== yard: the model's step; printed by wip/gen/p60.py ===== -/
def mS (K : Nat) (V : Option Nat) : Int32 := if K = 0 then 3 else if K = 3 then 2 else match V with
  | some v => if K = 1 then nI v else 1
  | none => 4
def TM (t : List Nat) (P : Nat) (M : Mem) : Prop := M.1 37 13 = nI (tkE t P) ∧ M.1 37 14 = nI (tkS t P) ∧ M.1 37 15 = mS (tkK t P) (tkV t P) ∧ (tkK t P = 2 → ∀ v, tkV t P = some v → M.1 37 16 = nI v)
def FT7 (M M' : Mem) : Prop := (∀ q, q ≠ 37 → M'.1 q = M.1 q) ∧ (∀ k, k < 13 ∨ 16 < k → M'.1 37 k = M.1 37 k) ∧ M'.2 = M.2
theorem FT7.refl (M : Mem) : FT7 M M := ⟨fun _ _ => rfl, fun _ _ => rfl, rfl⟩
theorem FT7.st {M M1 : Mem} (h : FT7 M M1) {k : Nat} (hk : 13 ≤ k ∧ k ≤ 16) (v : Int32) : FT7 M (wr M1 37 k v) := ⟨fun q a => by rw [wr_ne _ a]; exact h.1 q a, fun j hj => by rw [upd_row, if_neg (by omega)]; exact h.2.1 j hj, h.2.2⟩
theorem FT7.trans {M M1 M2 : Mem} (h : FT7 M M1) (h' : FT7 M1 M2) : FT7 M M2 := ⟨fun q a => by rw [h'.1 q a, h.1 q a], fun k hk => by rw [h'.2.1 k hk, h.2.1 k hk], by rw [h'.2.2, h.2.2]⟩
theorem RMt.st {t : List Nat} {M : Mem} (h : RMt t M) {k : Nat} (hk : 3 ≤ k) (v : Int32) : RMt t (wr M 37 k v) := ⟨by rw [upd_row, if_neg (by omega)]; exact h.1, fun j c hj => by rw [wr_ne _ (by decide)]; exact h.2 j c hj⟩
theorem RMt.ft {t : List Nat} {M M' : Mem} (h : RMt t M) (hf : FT7 M M') : RMt t M' := ⟨by rw [hf.2.1 2 (by decide)]; exact h.1, fun j c hj => by rw [hf.1 38 (by decide)]; exact h.2 j c hj⟩
def hrI (t : List Nat) (P : Nat) : Int32 := if t.length ≤ P then -1 else nI (chT t P)
theorem here_M {t : List Nat} (ht : Txt t) {P : Nat} {M : Mem} (h : RMt t M) (m : M.1 37 13 = nI P) (hP : P ≤ t.length) : z_M_here_37 M = hrI t P := by
  have hl := ht.1
  unfold z_M_here_37 hrI
  rw [h.1, m]
  by_cases q : t.length ≤ P
  · rw [if_pos q, if_pos ((nI_le_iff (by omega) (by omega)).mpr q)]
  · rw [if_neg q, if_neg (fun c => q ((nI_le_iff (by omega) (by omega)).mp c)), nI_clamp (by omega)]
    exact h.2 P _ (ch_in (by omega))
theorem here_b {t : List Nat} (ht : Txt t) {P : Nat} {M : Mem} (h : RMt t M) (m : M.1 37 13 = nI P) (hP : P ≤ t.length) : ¬ M.1 37 2 ≤ M.1 37 13 → vp_in (M.1 37 13) 150 := by
  have hl := ht.1
  rw [h.1, m]
  intro c
  refine vp_in_nI ?_ (by decide)
  refine Decidable.byContradiction (fun q => c ((nI_le_iff (by omega) (by omega)).mpr (by omega)))
theorem hr_tab : ∀ c, c < 256 → ((z_M_in (nI c) 97 122 = 0 ↔ ¬ knd c = 1) ∧ (z_M_in (nI c) 48 57 = 0 ↔ ¬ knd c = 2) ∧ (nI c = 59 ↔ knd c = 3) ∧ (nI c = 32 ↔ c = 32) ∧ (0 : Int32) ≤ nI c) := by decide +kernel
theorem hr_out : (z_M_in (-1) 97 122 = 0 ↔ ¬ knd 256 = 1) ∧ (z_M_in (-1) 48 57 = 0 ↔ ¬ knd 256 = 2) ∧ ((-1 : Int32) = 59 ↔ knd 256 = 3) ∧ ((-1 : Int32) = 32 ↔ 256 = 32) := by decide +kernel
theorem hr_all {t : List Nat} (ht : Txt t) (P : Nat) : (z_M_in (hrI t P) 97 122 = 0 ↔ ¬ knd (chT t P) = 1) ∧ (z_M_in (hrI t P) 48 57 = 0 ↔ ¬ knd (chT t P) = 2) ∧ (hrI t P = 59 ↔ knd (chT t P) = 3) ∧ (hrI t P = 32 ↔ chT t P = 32) ∧ (0 ≤ hrI t P ↔ P < t.length) := by
  unfold hrI
  by_cases q : t.length ≤ P
  · rw [if_pos q, ch_out q]
    obtain ⟨a, b, c, d⟩ := hr_out
    exact ⟨a, b, c, d, ⟨fun h => absurd h (by decide), fun h => absurd h (by omega)⟩⟩
  · rw [if_neg q]
    obtain ⟨a, b, c, d, e⟩ := hr_tab _ (ch_lt ht (show P < t.length by omega))
    exact ⟨a, b, c, d, ⟨fun _ => by omega, fun _ => e⟩⟩
def mvl (t : List Nat) (S : Nat) : Nat → Nat
  | 0 => 0
  | j + 1 => if 99 < mvl t S j then mvl t S j else 10 * mvl t S j + (chT t (S + j) - 48)
theorem mvl_le {t : List Nat} {S : Nat} : ∀ j, (∀ i, i < j → knd (chT t (S + i)) = 2) → mvl t S j ≤ 999
  | 0, _ => by show 0 ≤ 999; omega
  | j + 1, h => by
    have ih := mvl_le j (fun i hi => h i (by omega))
    have hc := knd_2 (h j (by omega))
    show (if 99 < mvl t S j then mvl t S j else 10 * mvl t S j + (chT t (S + j) - 48)) ≤ 999
    split <;> omega
theorem mvl_1 (t : List Nat) (S : Nat) : mvl t S 1 = chT t S - 48 := by
  have e0 : mvl t S 0 = 0 := rfl
  show (if 99 < mvl t S 0 then mvl t S 0 else 10 * mvl t S 0 + (chT t (S + 0) - 48)) = _
  rw [e0, if_neg (by decide)]
  simp
theorem mvl_2 {t : List Nat} {S : Nat} (h : knd (chT t S) = 2) : mvl t S 2 = 10 * (chT t S - 48) + (chT t (S + 1) - 48) := by
  have hc := knd_2 h
  show (if 99 < mvl t S 1 then mvl t S 1 else 10 * mvl t S 1 + (chT t (S + 1) - 48)) = _
  rw [mvl_1, if_neg (by omega)]
theorem mvl_3 {t : List Nat} {S : Nat} (h : knd (chT t S) = 2) (h48 : ¬ chT t S = 48) : ∀ j, 99 < mvl t S (j + 3)
  | 0 => by
    have hc := knd_2 h
    show 99 < (if 99 < mvl t S 2 then mvl t S 2 else 10 * mvl t S 2 + (chT t (S + 2) - 48))
    rw [mvl_2 h]
    split <;> omega
  | j + 1 => by
    have ih := mvl_3 h h48 j
    show 99 < (if 99 < mvl t S (j + 3) then mvl t S (j + 3) else 10 * mvl t S (j + 3) + (chT t (S + (j + 3)) - 48))
    rw [if_pos ih]
    exact ih
/-- a word's run -/
theorem stp_word {t : List Nat} (ht : Txt t) {S E : Nat} (hS : S < t.length) (hSE : S < E) {M : Mem} {Q : Option Value → Mem → Prop} (hQ : ∀ M', M'.1 37 13 = nI E → M'.1 37 14 = nI S → M'.1 37 15 = mS 1 (vlF t 1 S E) → FT7 M M' → Q none M') :
    ∀ f P (M2 : Mem), t.length ≤ P + f → S ≤ P → P ≤ t.length → rnN t 1 f P = E → M2.1 37 13 = nI P → M2.1 37 14 = nI S → RMt t M2 → FT7 M M2 → WX mi_M_step 2 Q 63 [some (.ref 37), some (.int (nI (chT t S)))] [] M2 := by
  have hl := ht.1
  have fin : ∀ P (M2 : Mem), P = E → P ≤ t.length → ¬ knd (chT t P) = 1 → M2.1 37 13 = nI P → M2.1 37 14 = nI S → RMt t M2 → FT7 M M2 → WX mi_M_step 2 Q 63 [some (.ref 37), some (.int (nI (chT t S)))] [] M2 := by
    intro P M2 e hP hk m3 m4 hr hf
    subst e
    have hh := here_M ht hr m3 hP
    have b := here_b ht hr m3 hP
    have L1 : z_M_in (z_M_here_37 M2) 97 122 = 0 := by rw [hh]; exact (hr_all ht P).1.mpr hk
    have eD : M2.1 37 13 - M2.1 37 14 = nI (P - S) := by rw [m3, m4]; exact nI_subn (by omega) (by omega)
    have out : ∀ v, v = mS 1 (vlF t 1 S P) → Q none (wr M2 37 15 v) := fun v hv => hQ _ (by rw [upd_row, if_neg (by decide)]; exact m3) (by rw [upd_row, if_neg (by decide)]; exact m4) (by rw [upd_row, if_pos rfl]; exact hv) (hf.st ⟨by decide, by decide⟩ _)
    refine sg_M_step_37_63 M2 _ b (fun _ c => out _ ?_) (fun _ c => out _ ?_) (fun c => absurd L1 c)
    · have d : ¬ P - S = 1 := fun d => c (by rw [eD, d]; rfl)
      unfold vlF
      rw [if_pos rfl, if_neg d]
      rfl
    · have d : P - S = 1 := by rw [eD] at c; exact (nI_eq (b := 1) (by omega) (by decide)).mp c
      unfold vlF
      rw [if_pos rfl, if_pos d]
      rfl
  intro f
  induction f with
  | zero =>
    intro P M2 a1 a2 a3 a4 m3 m4 hr hf
    have e : P = E := a4
    refine fin P M2 e a3 (fun c => ?_) m3 m4 hr hf
    have := knd_in (t := t) (K := 1) (by decide) c
    omega
  | succ f ih =>
    intro P M2 a1 a2 a3 a4 m3 m4 hr hf
    have a4 : (if knd (chT t P) = 1 then rnN t 1 f (P + 1) else P) = E := a4
    by_cases q : knd (chT t P) = 1
    · rw [if_pos q] at a4
      have hP := knd_in (t := t) (K := 1) (by decide) q
      have hh := here_M ht hr m3 a3
      have L1 : ¬ z_M_in (z_M_here_37 M2) 97 122 = 0 := by rw [hh]; exact fun c => (hr_all ht P).1.mp c q
      refine sg_M_step_37_63 M2 _ (here_b ht hr m3 a3) (fun c => absurd c L1) (fun c => absurd c L1) (fun _ => ?_)
      rw [m3, nI_1]
      exact ih (P + 1) _ (by omega) (by omega) hP a4 (by rw [upd_row, if_pos rfl]) (by rw [upd_row, if_neg (by decide)]; exact m4) (hr.st (by decide) _) (hf.st ⟨by decide, by decide⟩ _)
    · rw [if_neg q] at a4
      exact fin P M2 a4 a3 q m3 m4 hr hf
/-- a number's run -/
theorem stp_num {t : List Nat} (ht : Txt t) {S E : Nat} (hS : S < t.length) (hSE : S < E) {M : Mem} {Q : Option Value → Mem → Prop} (hQ : ∀ M', M'.1 37 13 = nI E → M'.1 37 14 = nI S → M'.1 37 15 = mS 2 (vlF t 2 S E) → (∀ v, vlF t 2 S E = some v → M'.1 37 16 = nI v) → FT7 M M' → Q none M') :
    ∀ f P (M2 : Mem), t.length ≤ P + f → S ≤ P → P ≤ t.length → (∀ i, i < P - S → knd (chT t (S + i)) = 2) → rnN t 2 f P = E → M2.1 37 13 = nI P → M2.1 37 14 = nI S → M2.1 37 16 = nI (mvl t S (P - S)) → RMt t M2 → FT7 M M2 → WX mi_M_step 2 Q 126 [some (.ref 37), some (.int (nI (chT t S)))] [] M2 := by
  have hl := ht.1
  have fin : ∀ P (M2 : Mem), P = E → P ≤ t.length → (∀ i, i < P - S → knd (chT t (S + i)) = 2) → ¬ knd (chT t P) = 2 → M2.1 37 13 = nI P → M2.1 37 14 = nI S → M2.1 37 16 = nI (mvl t S (P - S)) → RMt t M2 → FT7 M M2 → WX mi_M_step 2 Q 126 [some (.ref 37), some (.int (nI (chT t S)))] [] M2 := by
    intro P M2 e hP hall hk m3 m4 m6 hr hf
    subst e
    have hh := here_M ht hr m3 hP
    have b := here_b ht hr m3 hP
    have L1 : z_M_in (z_M_here_37 M2) 48 57 = 0 := by rw [hh]; exact (hr_all ht P).2.1.mpr hk
    have eD : M2.1 37 13 - M2.1 37 14 = nI (P - S) := by rw [m3, m4]; exact nI_subn (by omega) (by omega)
    have k0 : knd (chT t S) = 2 := by have := hall 0 (by omega); rw [Nat.add_zero] at this; exact this
    have c0 := knd_2 k0
    have hml := mvl_le (P - S) hall
    have h99 : 99 < M2.1 37 16 ↔ 99 < mvl t S (P - S) := by rw [m6]; exact nI_lt_iff (a := 99) (by decide) (by omega)
    have h48 : nI (chT t S) = 48 ↔ chT t S = 48 := nI_eq (b := 48) (by omega) (by decide)
    have hd1 : M2.1 37 13 - M2.1 37 14 ≤ 1 ↔ P - S ≤ 1 := by rw [eD]; exact nI_le_iff (b := 1) (by omega) (by decide)
    have v1 : P - S = 1 → vlF t 2 S P = some (chT t S - 48) := fun d => by unfold vlF; rw [if_neg (by decide), if_pos rfl, if_pos d]
    have v2 : P - S = 2 → ¬ chT t S = 48 → vlF t 2 S P = some (10 * (chT t S - 48) + (chT t (S + 1) - 48)) := fun d d2 => by unfold vlF; rw [if_neg (by decide), if_pos rfl, if_neg (by omega), if_pos ⟨d, d2⟩]
    have v3 : ¬ P - S = 1 → ¬ (P - S = 2 ∧ chT t S ≠ 48) → vlF t 2 S P = none := fun d d2 => by unfold vlF; rw [if_neg (by decide), if_pos rfl, if_neg d, if_neg d2]
    have w1 : P - S = 1 → mvl t S (P - S) = chT t S - 48 := fun d => by rw [d]; exact mvl_1 t S
    have w2 : P - S = 2 → mvl t S (P - S) = 10 * (chT t S - 48) + (chT t (S + 1) - 48) := fun d => by rw [d]; exact mvl_2 k0
    have w3 : 3 ≤ P - S → ¬ chT t S = 48 → 99 < mvl t S (P - S) := fun d d2 => by
      have := mvl_3 k0 d2 (P - S - 3)
      rw [show P - S - 3 + 3 = P - S by omega] at this
      exact this
    have c1 : P - S = 2 → chT t (S + 1) ≤ 57 := fun d => (knd_2 (hall 1 (by omega))).2
    have outN : vlF t 2 S P = none → Q none (wr M2 37 15 4) := fun h => hQ _ (by rw [upd_row, if_neg (by decide)]; exact m3) (by rw [upd_row, if_neg (by decide)]; exact m4) (by rw [upd_row, if_pos rfl, h]; rfl) (fun v hv => by rw [h] at hv; cases hv) (hf.st ⟨by decide, by decide⟩ _)
    have outS : ∀ v, vlF t 2 S P = some v → mvl t S (P - S) = v → Q none (wr M2 37 15 1) := fun v h h' => hQ _ (by rw [upd_row, if_neg (by decide)]; exact m3) (by rw [upd_row, if_neg (by decide)]; exact m4) (by rw [upd_row, if_pos rfl, h]; rfl) (fun v' hv => by rw [h] at hv; cases hv; rw [upd_row, if_neg (by decide), m6, h']) (hf.st ⟨by decide, by decide⟩ _)
    refine sg_M_step_37_126 M2 _ b (fun _ c => outN ?_) (fun _ c c2 => ?_) (fun _ c c2 c3 => ?_) (fun _ c c2 c3 => outN ?_) (fun c => absurd L1 c) (fun c => absurd L1 c) (fun c => absurd L1 c)
    · rw [h99] at c
      refine v3 (fun d => ?_) (fun d => ?_)
      · rw [w1 d] at c; omega
      · rw [w2 d.1] at c
        have := c1 d.1
        omega
    · rw [h99] at c
      rw [h48] at c2
      by_cases d : P - S = 1
      · exact outS _ (v1 d) (w1 d)
      · by_cases d2 : P - S = 2
        · exact outS _ (v2 d2 c2) (w2 d2)
        · exact absurd (w3 (by omega) c2) c
    · rw [hd1] at c3
      have d : P - S = 1 := by omega
      exact outS _ (v1 d) (w1 d)
    · rw [h48] at c2
      rw [hd1] at c3
      exact v3 (by omega) (fun d => d.2 c2)
  intro f
  induction f with
  | zero =>
    intro P M2 a1 a2 a3 hall a4 m3 m4 m6 hr hf
    have e : P = E := a4
    refine fin P M2 e a3 hall (fun c => ?_) m3 m4 m6 hr hf
    have := knd_in (t := t) (K := 2) (by decide) c
    omega
  | succ f ih =>
    intro P M2 a1 a2 a3 hall a4 m3 m4 m6 hr hf
    have a4 : (if knd (chT t P) = 2 then rnN t 2 f (P + 1) else P) = E := a4
    by_cases q : knd (chT t P) = 2
    · rw [if_pos q] at a4
      have hP := knd_in (t := t) (K := 2) (by decide) q
      have hh := here_M ht hr m3 a3
      have L1 : ¬ z_M_in (z_M_here_37 M2) 48 57 = 0 := by rw [hh]; exact fun c => (hr_all ht P).2.1.mp c q
      have hml := mvl_le (P - S) hall
      have hc := knd_2 q
      have h99 : M2.1 37 16 ≤ 99 ↔ mvl t S (P - S) ≤ 99 := by rw [m6]; exact nI_le_iff (b := 99) (by omega) (by decide)
      have hall' : ∀ i, i < P + 1 - S → knd (chT t (S + i)) = 2 := fun i hi => by
        by_cases e : i = P - S
        · rw [e, show S + (P - S) = P by omega]; exact q
        · exact hall i (by omega)
      have em : mvl t S (P + 1 - S) = if 99 < mvl t S (P - S) then mvl t S (P - S) else 10 * mvl t S (P - S) + (chT t P - 48) := by
        rw [show P + 1 - S = (P - S) + 1 by omega]
        show (if 99 < mvl t S (P - S) then mvl t S (P - S) else 10 * mvl t S (P - S) + (chT t (S + (P - S)) - 48)) = _
        rw [show S + (P - S) = P by omega]
      refine sg_M_step_37_126 M2 _ (here_b ht hr m3 a3) (fun c => absurd c L1) (fun c => absurd c L1) (fun c => absurd c L1) (fun c => absurd c L1) (fun _ _ => here_b ht hr m3 a3) (fun _ c => ?_) (fun _ c => ?_)
      · rw [h99] at c
        rw [hh, m3, nI_1, m6]
        have ev : ((10 * nI (mvl t S (P - S))) + hrI t P) - 48 = nI (mvl t S (P + 1 - S)) := by
          rw [em, if_neg (by omega)]
          unfold hrI
          rw [if_neg (by omega)]
          show ((nI 10 * nI (mvl t S (P - S))) + nI (chT t P)) - nI 48 = _
          rw [nI_mul, nI_add, nI_subn (by omega) (by omega)]
          congr 1
          omega
        rw [ev]
        exact ih (P + 1) _ (by omega) (by omega) hP hall' a4 (by rw [upd_row, if_pos rfl]) (by rw [upd_row, if_neg (by decide), upd_row, if_neg (by decide)]; exact m4) (by rw [upd_row, if_neg (by decide), upd_row, if_pos rfl]) ((hr.st (by decide) _).st (by decide) _) ((hf.st ⟨by decide, by decide⟩ _).st ⟨by decide, by decide⟩ _)
      · rw [h99] at c
        rw [m3, nI_1]
        exact ih (P + 1) _ (by omega) (by omega) hP hall' a4 (by rw [upd_row, if_pos rfl]) (by rw [upd_row, if_neg (by decide), upd_row, if_neg (by decide)]; exact m4) (by rw [upd_row, if_neg (by decide), upd_row, if_pos rfl, em, if_pos (by omega)]; exact m6) ((hr.st (by decide) _).st (by decide) _) ((hf.st ⟨by decide, by decide⟩ _).st ⟨by decide, by decide⟩ _)
    · rw [if_neg q] at a4
      exact fin P M2 a4 a3 hall q m3 m4 m6 hr hf
/-- one token, from where the spaces end -/
theorem stp_start {t : List Nat} (ht : Txt t) {P : Nat} {M M1 : Mem} {Q : Option Value → Mem → Prop} (hS : tkS t P ≤ t.length) (h32 : ¬ chT t (tkS t P) = 32) (hr : RMt t M1) (m3 : M1.1 37 13 = nI (tkS t P)) (hf : FT7 M M1) (hQ : ∀ M', TM t P M' → FT7 M M' → Q none M') : WX mi_M_step 2 Q 0 [some (.ref 37), none] [] M1 := by
  have hl := ht.1
  have hh := here_M ht hr m3 hS
  obtain ⟨a1, a2, a3, a4, a5⟩ := hr_all ht (tkS t P)
  have N32 : ¬ z_M_here_37 M1 = 32 := by rw [hh]; exact fun c => h32 (a4.mp c)
  have s3 : (wr (wr M1 37 14 (M1.1 37 13)) 37 16 0).1 37 13 = nI (tkS t P) := by rw [upd_row, if_neg (by decide), upd_row, if_neg (by decide)]; exact m3
  have s4 : (wr (wr M1 37 14 (M1.1 37 13)) 37 16 0).1 37 14 = nI (tkS t P) := by rw [upd_row, if_neg (by decide), upd_row, if_pos rfl]; exact m3
  have s6 : (wr (wr M1 37 14 (M1.1 37 13)) 37 16 0).1 37 16 = nI 0 := by rw [upd_row, if_pos rfl]; rfl
  have sr : RMt t (wr (wr M1 37 14 (M1.1 37 13)) 37 16 0) := (hr.st (by decide) _).st (by decide) _
  have sf : FT7 M (wr (wr M1 37 14 (M1.1 37 13)) 37 16 0) := (hf.st ⟨by decide, by decide⟩ _).st ⟨by decide, by decide⟩ _
  have hh2 := here_M ht sr s3 hS
  have b1 := here_b ht hr m3 hS
  have b2 := here_b ht sr s3 hS
  by_cases q : t.length ≤ tkS t P
  · have k0 : tkK t P = 0 := tkK_0.mpr q
    have Z : ¬ 0 ≤ z_M_here_37 (wr (wr M1 37 14 (M1.1 37 13)) 37 16 0) := by rw [hh2]; exact fun c => by have := a5.mp c; omega
    refine sg_M_step_37_0 M1 b1 (fun _ => b2) (fun _ c => absurd c Z) (fun _ c => absurd c Z) (fun _ c => absurd c Z) (fun _ c => absurd c Z) (fun _ _ => ?_) (fun c => absurd c N32)
    exact hQ _ ⟨by rw [upd_row, if_neg (by decide), tkE_0 k0]; exact s3, by rw [upd_row, if_neg (by decide)]; exact s4, by rw [upd_row, if_pos rfl, k0]; rfl, fun c => by rw [k0] at c; cases c⟩ (sf.st ⟨by decide, by decide⟩ _)
  · have hS' : tkS t P < t.length := by omega
    have hch := ch_lt ht hS'
    have ek : tkK t P = knd (chT t (tkS t P)) := if_neg q
    have Z : 0 ≤ z_M_here_37 (wr (wr M1 37 14 (M1.1 37 13)) 37 16 0) := by rw [hh2]; exact a5.mpr hS'
    have ehr : hrI t (tkS t P) = nI (chT t (tkS t P)) := if_neg q
    have hk := knd_le (chT t (tkS t P))
    have gt := en_gt hS'
    have eE : tkE t P = enF t (knd (chT t (tkS t P))) (tkS t P) := by unfold tkE; rw [ek]
    have eV' : tkV t P = vlF t (knd (chT t (tkS t P))) (tkS t P) (enF t (knd (chT t (tkS t P))) (tkS t P)) := by unfold tkV; rw [ek, eE]
    have k4 : knd (chT t (tkS t P)) = 1 ∨ knd (chT t (tkS t P)) = 2 ∨ knd (chT t (tkS t P)) = 3 ∨ knd (chT t (tkS t P)) = 4 := by omega
    rcases k4 with k | k | k | k
    · have L1 : ¬ z_M_in (z_M_here_37 (wr (wr M1 37 14 (M1.1 37 13)) 37 16 0)) 97 122 = 0 := by rw [hh2]; exact fun c => a1.mp c k
      refine sg_M_step_37_0 M1 b1 (fun _ => b2) (fun _ _ c => absurd c L1) (fun _ _ c => absurd c L1) (fun _ _ c => absurd c L1) (fun _ _ _ => ?_) (fun _ c => absurd Z c) (fun c => absurd c N32)
      rw [hh2, ehr]
      rw [k] at eE eV' gt
      refine stp_word ht hS' gt.1 (fun M' e1 e2 e3 e4 => hQ M' ⟨by rw [eE]; exact e1, e2, by rw [ek, k, eV']; exact e3, fun c => by rw [ek, k] at c; cases c⟩ e4) 151 (tkS t P) _ (by omega) (Nat.le_refl _) hS ?_ s3 s4 sr sf
      unfold enF
      rw [if_neg (by decide), if_pos (Or.inl rfl)]
    · have L1 : z_M_in (z_M_here_37 (wr (wr M1 37 14 (M1.1 37 13)) 37 16 0)) 97 122 = 0 := by rw [hh2]; exact a1.mpr (by omega)
      have L2 : ¬ z_M_in (z_M_here_37 (wr (wr M1 37 14 (M1.1 37 13)) 37 16 0)) 48 57 = 0 := by rw [hh2]; exact fun c => a2.mp c k
      refine sg_M_step_37_0 M1 b1 (fun _ => b2) (fun _ _ _ c => absurd c L2) (fun _ _ _ c => absurd c L2) (fun _ _ _ _ => ?_) (fun _ _ c => absurd L1 c) (fun _ c => absurd Z c) (fun c => absurd c N32)
      rw [hh2, ehr]
      rw [k] at eE eV' gt
      refine stp_num ht hS' gt.1 (fun M' e1 e2 e3 e5 e4 => hQ M' ⟨by rw [eE]; exact e1, e2, by rw [ek, k, eV']; exact e3, fun _ v hv => e5 v (by rw [← eV']; exact hv)⟩ e4) 151 (tkS t P) _ (by omega) (Nat.le_refl _) hS (fun i hi => absurd hi (by omega)) ?_ s3 s4 (by rw [Nat.sub_self]; exact s6) sr sf
      unfold enF
      rw [if_neg (by decide), if_pos (Or.inr rfl)]
    · have L1 : z_M_in (z_M_here_37 (wr (wr M1 37 14 (M1.1 37 13)) 37 16 0)) 97 122 = 0 := by rw [hh2]; exact a1.mpr (by omega)
      have L2 : z_M_in (z_M_here_37 (wr (wr M1 37 14 (M1.1 37 13)) 37 16 0)) 48 57 = 0 := by rw [hh2]; exact a2.mpr (by omega)
      have L3 : z_M_here_37 (wr (wr M1 37 14 (M1.1 37 13)) 37 16 0) = 59 := by rw [hh2]; exact a3.mpr k
      refine sg_M_step_37_0 M1 b1 (fun _ => b2) (fun _ _ _ _ c => absurd L3 c) (fun _ _ _ _ _ => ?_) (fun _ _ _ c => absurd L2 c) (fun _ _ c => absurd L1 c) (fun _ c => absurd Z c) (fun c => absurd c N32)
      have eE2 : tkE t P = tkS t P + 1 := by rw [eE, k]; rfl
      exact hQ _ ⟨by rw [upd_row, if_neg (by decide), upd_row, if_pos rfl, m3, nI_1, eE2], by rw [upd_row, if_neg (by decide), upd_row, if_neg (by decide)]; exact s4, by rw [upd_row, if_pos rfl, ek, k, eV', k]; rfl, fun c => by rw [ek, k] at c; cases c⟩ ((sf.st ⟨by decide, by decide⟩ _).st ⟨by decide, by decide⟩ _)
    · have L1 : z_M_in (z_M_here_37 (wr (wr M1 37 14 (M1.1 37 13)) 37 16 0)) 97 122 = 0 := by rw [hh2]; exact a1.mpr (by omega)
      have L2 : z_M_in (z_M_here_37 (wr (wr M1 37 14 (M1.1 37 13)) 37 16 0)) 48 57 = 0 := by rw [hh2]; exact a2.mpr (by omega)
      have L3 : ¬ z_M_here_37 (wr (wr M1 37 14 (M1.1 37 13)) 37 16 0) = 59 := by rw [hh2]; exact fun c => by have := a3.mp c; omega
      refine sg_M_step_37_0 M1 b1 (fun _ => b2) (fun _ _ _ _ _ => ?_) (fun _ _ _ _ c => absurd c L3) (fun _ _ _ c => absurd L2 c) (fun _ _ c => absurd L1 c) (fun _ c => absurd Z c) (fun c => absurd c N32)
      have eE2 : tkE t P = tkS t P + 1 := by rw [eE, k]; rfl
      exact hQ _ ⟨by rw [upd_row, if_neg (by decide), upd_row, if_pos rfl, m3, nI_1, eE2], by rw [upd_row, if_neg (by decide), upd_row, if_neg (by decide)]; exact s4, by rw [upd_row, if_pos rfl, ek, k, eV', k]; rfl, fun c => by rw [ek, k] at c; cases c⟩ ((sf.st ⟨by decide, by decide⟩ _).st ⟨by decide, by decide⟩ _)
theorem wx_step {t : List Nat} (ht : Txt t) {P : Nat} {M : Mem} {Q : Option Value → Mem → Prop} (hr : RMt t M) (m3 : M.1 37 13 = nI P) (hP : P ≤ t.length) (hQ : ∀ M', TM t P M' → FT7 M M' → Q none M') : WX mi_M_step 2 Q 0 [some (.ref 37), none] [] M := by
  have hl := ht.1
  have loop : ∀ f P1 (M1 : Mem), t.length ≤ P1 + f → P1 ≤ t.length → spN t f P1 = tkS t P → RMt t M1 → M1.1 37 13 = nI P1 → FT7 M M1 → WX mi_M_step 2 Q 0 [some (.ref 37), none] [] M1 := by
    intro f
    induction f with
    | zero =>
      intro P1 M1 a1 a2 a3 a4 a5 a6
      have a3 : P1 = tkS t P := a3
      refine stp_start ht (by omega) (fun c => ?_) a4 (by rw [← a3]; exact a5) a6 hQ
      rw [ch_out (by omega)] at c
      omega
    | succ f ih =>
      intro P1 M1 a1 a2 a3 a4 a5 a6
      have a3 : (if chT t P1 = 32 then spN t f (P1 + 1) else P1) = tkS t P := a3
      by_cases q : chT t P1 = 32
      · rw [if_pos q] at a3
        have hlt : P1 < t.length := Decidable.byContradiction (fun c => by rw [ch_out (by omega)] at q; omega)
        have E32 : z_M_here_37 M1 = 32 := by rw [here_M ht a4 a5 a2]; exact (hr_all ht P1).2.2.2.1.mpr q
        refine sg_M_step_37_0 M1 (here_b ht a4 a5 a2) (fun c => absurd E32 c) (fun c => absurd E32 c) (fun c => absurd E32 c) (fun c => absurd E32 c) (fun c => absurd E32 c) (fun c => absurd E32 c) (fun _ => ?_)
        rw [a5, nI_1]
        exact ih (P1 + 1) _ (by omega) hlt a3 (a4.st (by decide) _) (by rw [upd_row, if_pos rfl]) (a6.st ⟨by decide, by decide⟩ _)
      · rw [if_neg q] at a3
        refine stp_start ht (by rw [← a3]; exact a2) (by rw [← a3]; exact q) a4 (by rw [← a3]; exact a5) a6 hQ
  exact loop 151 P M (by omega) hP rfl hr m3 (FT7.refl M)
