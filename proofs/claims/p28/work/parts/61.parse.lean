/-! ===== yard: what a text tells ===== -/
/-- the plot, heights, stock; door told, stock told, rows ended -/
abbrev Dr : Type := Pl × (Nat → Nat) × (Nat → Nat) × (Bool × Bool × Bool)
def nmF (t : List Nat) (P l n : Nat) : Option Nat := match tkV t P with
  | some v => if tkK t P = 2 ∧ l ≤ v ∧ v < n then some v else none
  | none => none
def rowF (t : List Nat) (R : Nat) : Nat → Nat → Nat → (Nat → Nat) → Nat ⊕ (Nat × (Nat → Nat))
  | 0, _, P, H => .inr (P, H)
  | n + 1, x, P, H => match nmF t P 0 10 with
    | none => .inl (tkS t P)
    | some v => rowF t R n (x + 1) (tkE t P) (updN H (4 * R + x) v)
def stoF (t : List Nat) : Nat → Nat → Nat → (Nat → Nat) → Nat ⊕ (Nat × (Nat → Nat))
  | 0, _, P, H => .inr (P, H)
  | n + 1, z, P, H => match nmF t P 0 21 with
    | none => .inl (tkS t P)
    | some v => stoF t n (z + 1) (tkE t P) (updN H z v)
def addB (f : Nat → Bool) (k : Nat) : Nat → Bool := fun j => f j || decide (j = k)
def celF (t : List Nat) (c P : Nat) (d : Dr) : Nat ⊕ (Nat × Dr) := match nmF t P 0 (pW d.1) with
  | none => .inl (tkS t P)
  | some x => match nmF t (tkE t P) 0 (pR d.1) with
    | none => .inl (tkS t (tkE t P))
    | some y => if c = 111 then .inr (tkE t (tkE t P), ((pW d.1, pR d.1, pL d.1, pD d.1, 4 * y + x), d.2.1, d.2.2.1, (true, d.2.2.2.2.1, true)))
      else if (pL d.1 (4 * y + x) || pD d.1 (4 * y + x)) = true then .inl (tkS t (tkE t P))
      else if c = 108 then .inr (tkE t (tkE t P), ((pW d.1, pR d.1, addB (pL d.1) (4 * y + x), pD d.1, pO d.1), d.2.1, d.2.2.1, (d.2.2.2.1, d.2.2.2.2.1, true)))
      else .inr (tkE t (tkE t P), ((pW d.1, pR d.1, pL d.1, addB (pD d.1) (4 * y + x), pO d.1), d.2.1, d.2.2.1, (d.2.2.2.1, d.2.2.2.2.1, true)))
def widF (t : List Nat) (P : Nat) (d : Dr) : Nat ⊕ (Nat × Dr) := match nmF t P 1 5 with
  | none => .inl (tkS t P)
  | some v => .inr (tkE t P, ((v, pR d.1, pL d.1, pD d.1, pO d.1), d.2))
def rwsF (t : List Nat) (P : Nat) (d : Dr) : Nat ⊕ (Nat × Dr) := match rowF t (pR d.1) (pW d.1) 0 P d.2.1 with
  | .inl e => .inl e
  | .inr (P', H) => .inr (P', ((pW d.1, pR d.1 + 1, pL d.1, pD d.1, pO d.1), H, d.2.2))
def stkF (t : List Nat) (P : Nat) (d : Dr) : Nat ⊕ (Nat × Dr) := match stoF t 4 0 P d.2.2.1 with
  | .inl e => .inl e
  | .inr (P', H) => .inr (P', (d.1, d.2.1, H, (d.2.2.2.1, true, d.2.2.2.2.2)))
/-- what may stand there -/
def mayF (c i : Nat) (d : Dr) : Bool :=
  if c = 119 then decide (i = 0)
  else if c = 114 then decide (0 < pW d.1) && !d.2.2.2.2.2 && decide (pR d.1 < 4)
  else if c = 115 then !d.2.2.2.2.1
  else if c = 111 then decide (0 < pW d.1) && !d.2.2.2.1
  else if c = 100 ∨ c = 108 then decide (0 < pW d.1)
  else false
def itmF (t : List Nat) (c P : Nat) (d : Dr) : Nat ⊕ (Nat × Dr) :=
  if c = 119 then widF t P d
  else if c = 114 then rwsF t P d
  else if c = 115 then stkF t P d
  else celF t c P d
def parF (t : List Nat) : Nat → Nat → Nat → Dr → Nat ⊕ (Nat × Dr)
  | 0, _, _, _ => .inl 0
  | f + 1, i, P, d => if tkK t P = 0 then .inr (i, d) else match (if tkK t P = 1 then tkV t P else none) with
    | none => .inl (tkS t P)
    | some c => if mayF c i d = true then (match itmF t c (tkE t P) d with
      | .inl e => .inl e
      | .inr (P', d') => if tkK t P' = 3 then parF t f (i + 1) (tkE t P') d' else .inl (tkS t P')) else .inl (tkS t P)
def drN : Dr := ((0, 0, fun _ => false, fun _ => false, 0), fun _ => 0, fun _ => 4, (false, false, false))
/-- what holds of a draft -/
def WfD (d : Dr) : Prop := (pW d.1 ≤ 4 ∧ pR d.1 ≤ 4 ∧ (∀ k, k < 16 → pL d.1 k = true → thr d.1 k = true) ∧ (∀ k, k < 16 → pD d.1 k = true → thr d.1 k = true ∧ pL d.1 k = false) ∧ (pO d.1 < 16 ∧ (pO d.1 = 0 ∨ thr d.1 (pO d.1) = true)) ∧ (∀ k, 16 ≤ k → pL d.1 k = false ∧ pD d.1 k = false)) ∧
  (∀ k, k < 16 → thr d.1 k = true → d.2.1 k ≤ 9) ∧ (∀ z, z < 4 → d.2.2.1 z ≤ 20)
theorem wfd_0 : WfD drN := by
  refine ⟨⟨by decide, by decide, fun k _ h => ?_, fun k _ h => ?_, ⟨by decide, Or.inl rfl⟩, fun k _ => ⟨rfl, rfl⟩⟩, fun k _ h => Nat.zero_le 9, fun z _ => ?_⟩
  · cases h
  · cases h
  · show 4 ≤ 20
    decide
theorem WfD.wfp {d : Dr} (h : WfD d) : WfP d.1 := by
  obtain ⟨⟨h1, h2, h3, h4, ⟨h5, h6⟩, h7⟩, -, -⟩ := h
  refine ⟨h1, h2, h3, h4, ⟨h5, fun a b => ?_⟩, h7⟩
  rcases h6 with e | e
  · rw [e]
    unfold thr
    rw [decide_eq_true (show 0 % 4 < pW d.1 by omega), decide_eq_true (show 0 / 4 < pR d.1 by omega)]
    rfl
  · exact e
theorem nm_some {t : List Nat} {P l n v : Nat} (h : nmF t P l n = some v) : tkV t P = some v ∧ tkK t P = 2 ∧ l ≤ v ∧ v < n := by
  unfold nmF at h
  cases e : tkV t P with
  | none => rw [e] at h; cases h
  | some w =>
    rw [e] at h
    dsimp only at h
    by_cases q : tkK t P = 2 ∧ l ≤ w ∧ w < n
    · rw [if_pos q] at h
      cases h
      exact ⟨rfl, q⟩
    · rw [if_neg q] at h; cases h
theorem nm_none {t : List Nat} {P l n v : Nat} (h : nmF t P l n = none) (hv : tkV t P = some v) (hk : tkK t P = 2) : v < l ∨ n ≤ v := by
  unfold nmF at h
  rw [hv] at h
  dsimp only at h
  by_cases q : tkK t P = 2 ∧ l ≤ v ∧ v < n
  · rw [if_pos q] at h; cases h
  · have : ¬ (l ≤ v ∧ v < n) := fun r => q ⟨hk, r⟩
    omega
theorem tkV_lt {t : List Nat} {P v : Nat} (hv : tkV t P = some v) (hk : tkK t P = 2) : v < 1000 := by
  have h0 : ¬ tkK t P = 0 := by rw [hk]; decide
  obtain ⟨h1, h2⟩ := tkK_n h0
  have gt := tkE_gt h0
  have c0 := knd_2 (show knd (chT t (tkS t P)) = 2 by rw [← h2]; exact hk)
  unfold tkV vlF at hv
  rw [hk, if_neg (by decide), if_pos rfl] at hv
  by_cases d : tkE t P - tkS t P = 1
  · rw [if_pos d] at hv
    cases hv
    omega
  · rw [if_neg d] at hv
    by_cases d2 : tkE t P - tkS t P = 2 ∧ chT t (tkS t P) ≠ 48
    · rw [if_pos d2] at hv
      cases hv
      have : chT t (tkS t P + 1) ≤ 256 := by
        unfold chT
        cases q : t[tkS t P + 1]? with
        | none => exact Nat.le_refl _
        | some c =>
          show c ≤ 256
          have e : tkE t P = tkS t P + 2 := by omega
          have r : knd (chT t (tkS t P + 1)) = 2 := by
            have e2 : enF t 2 (tkS t P) = tkS t P + 2 := by rw [← e]; unfold tkE; rw [hk]
            unfold enF at e2
            rw [if_neg (by decide), if_pos (Or.inr rfl)] at e2
            have e3 : (if knd (chT t (tkS t P)) = 2 then rnN t 2 150 (tkS t P + 1) else tkS t P) = tkS t P + 2 := e2
            rw [if_pos (by rw [← h2]; exact hk)] at e3
            have e4 : (if knd (chT t (tkS t P + 1)) = 2 then rnN t 2 149 (tkS t P + 1 + 1) else tkS t P + 1) = tkS t P + 2 := e3
            by_cases w : knd (chT t (tkS t P + 1)) = 2
            · exact w
            · rw [if_neg w] at e4; omega
          have := knd_2 r
          unfold chT at this
          rw [q] at this
          have : c ≤ 57 := this.2
          omega
      omega
    · rw [if_neg d2] at hv; cases hv
theorem nm_step {t : List Nat} {P l n v : Nat} (h : nmF t P l n = some v) : P < tkE t P ∧ tkE t P ≤ t.length := by
  have h0 : ¬ tkK t P = 0 := by rw [(nm_some h).2.1]; decide
  have := tkE_gt h0
  have := tkS_ge t P
  omega
theorem row_le {t : List Nat} {R : Nat} : ∀ n x P H P' H', rowF t R n x P H = .inr (P', H') → P ≤ t.length → P ≤ P' ∧ P' ≤ t.length
  | 0, x, P, H, P', H', h, hP => by
    have h : (Sum.inr (P, H) : Nat ⊕ (Nat × (Nat → Nat))) = .inr (P', H') := h
    cases h
    exact ⟨Nat.le_refl _, hP⟩
  | n + 1, x, P, H, P', H', h, hP => by
    have h : (match nmF t P 0 10 with | none => Sum.inl (tkS t P) | some v => rowF t R n (x + 1) (tkE t P) (updN H (4 * R + x) v)) = .inr (P', H') := h
    cases e : nmF t P 0 10 with
    | none => rw [e] at h; cases h
    | some v =>
      rw [e] at h
      have s := nm_step e
      have := row_le n (x + 1) (tkE t P) (updN H (4 * R + x) v) P' H' h s.2
      omega
theorem sto_le {t : List Nat} : ∀ n x P H P' H', stoF t n x P H = .inr (P', H') → P ≤ t.length → P ≤ P' ∧ P' ≤ t.length
  | 0, x, P, H, P', H', h, hP => by
    have h : (Sum.inr (P, H) : Nat ⊕ (Nat × (Nat → Nat))) = .inr (P', H') := h
    cases h
    exact ⟨Nat.le_refl _, hP⟩
  | n + 1, x, P, H, P', H', h, hP => by
    have h : (match nmF t P 0 21 with | none => Sum.inl (tkS t P) | some v => stoF t n (x + 1) (tkE t P) (updN H x v)) = .inr (P', H') := h
    cases e : nmF t P 0 21 with
    | none => rw [e] at h; cases h
    | some v =>
      rw [e] at h
      have s := nm_step e
      have := sto_le n (x + 1) (tkE t P) (updN H x v) P' H' h s.2
      omega
theorem row_ok {t : List Nat} {R : Nat} : ∀ n x P H P' H', rowF t R n x P H = .inr (P', H') → ∀ k, H' k = H k ∨ (4 * R + x ≤ k ∧ k < 4 * R + x + n ∧ H' k ≤ 9)
  | 0, x, P, H, P', H', h => by
    have h : (Sum.inr (P, H) : Nat ⊕ (Nat × (Nat → Nat))) = .inr (P', H') := h
    cases h
    exact fun k => Or.inl rfl
  | n + 1, x, P, H, P', H', h => by
    have h : (match nmF t P 0 10 with | none => Sum.inl (tkS t P) | some v => rowF t R n (x + 1) (tkE t P) (updN H (4 * R + x) v)) = .inr (P', H') := h
    cases e : nmF t P 0 10 with
    | none => rw [e] at h; cases h
    | some v =>
      rw [e] at h
      have hv := (nm_some e).2.2.2
      intro k
      rcases row_ok n (x + 1) (tkE t P) (updN H (4 * R + x) v) P' H' h k with q | q
      · have e2 : updN H (4 * R + x) v k = if k = 4 * R + x then v else H k := rfl
        rw [e2] at q
        by_cases c : k = 4 * R + x
        · rw [if_pos c] at q
          exact Or.inr ⟨by omega, by omega, by omega⟩
        · rw [if_neg c] at q
          exact Or.inl q
      · exact Or.inr ⟨by omega, by omega, q.2.2⟩
/-- every height of the row has been told -/
theorem row_all {t : List Nat} {R : Nat} : ∀ n x P H P' H', rowF t R n x P H = .inr (P', H') → ∀ k, 4 * R + x ≤ k → k < 4 * R + x + n → H' k ≤ 9
  | 0, x, P, H, P', H', h => fun k a b => by omega
  | n + 1, x, P, H, P', H', h => by
    have h : (match nmF t P 0 10 with | none => Sum.inl (tkS t P) | some v => rowF t R n (x + 1) (tkE t P) (updN H (4 * R + x) v)) = .inr (P', H') := h
    cases e : nmF t P 0 10 with
    | none => rw [e] at h; cases h
    | some v =>
      rw [e] at h
      have hv := (nm_some e).2.2.2
      intro k a b
      by_cases c : k = 4 * R + x
      · rcases row_ok n (x + 1) (tkE t P) (updN H (4 * R + x) v) P' H' h k with q | q
        · have e2 : updN H (4 * R + x) v k = if k = 4 * R + x then v else H k := rfl
          rw [e2, if_pos c] at q
          omega
        · exact q.2.2
      · exact row_all n (x + 1) (tkE t P) (updN H (4 * R + x) v) P' H' h k (by omega) (by omega)
theorem sto_ok {t : List Nat} : ∀ n x P H P' H', stoF t n x P H = .inr (P', H') → (∀ z, z < 4 → H z ≤ 20) → ∀ z, z < 4 → H' z ≤ 20
  | 0, x, P, H, P', H', h => by
    have h : (Sum.inr (P, H) : Nat ⊕ (Nat × (Nat → Nat))) = .inr (P', H') := h
    cases h
    exact fun h => h
  | n + 1, x, P, H, P', H', h => by
    have h : (match nmF t P 0 21 with | none => Sum.inl (tkS t P) | some v => stoF t n (x + 1) (tkE t P) (updN H x v)) = .inr (P', H') := h
    cases e : nmF t P 0 21 with
    | none => rw [e] at h; cases h
    | some v =>
      rw [e] at h
      have hv := (nm_some e).2.2.2
      intro hH
      refine sto_ok n (x + 1) (tkE t P) (updN H x v) P' H' h (fun z hz => ?_)
      show (if z = x then v else H z) ≤ 20
      split
      · omega
      · exact hH z hz
theorem wid_ok {t : List Nat} {P P' : Nat} {d d' : Dr} (h : widF t P d = .inr (P', d')) (hw : WfD d) (h0 : pR d.1 = 0 ∧ ∀ k, pL d.1 k = false ∧ pD d.1 k = false) : WfD d' ∧ P ≤ P' ∧ P' ≤ t.length := by
  unfold widF at h
  cases e : nmF t P 1 5 with
  | none => rw [e] at h; cases h
  | some v =>
    rw [e] at h
    cases h
    have hv := (nm_some e).2.2
    have s := nm_step e
    obtain ⟨⟨h1, h2, h3, h4, ⟨h5, h6⟩, h7⟩, h8, h9⟩ := hw
    have noT : ∀ w k, thr (w, pR d.1, pL d.1, pD d.1, pO d.1) k = false := fun w k => by
      unfold thr
      have : ¬ k / 4 < pR (w, pR d.1, pL d.1, pD d.1, pO d.1) := by
        show ¬ k / 4 < pR d.1
        omega
      rw [decide_eq_false this, Bool.and_false]
    have eO : pO d.1 = 0 := by
      rcases h6 with q | q
      · exact q
      · unfold thr at q
        rw [decide_eq_false (show ¬ pO d.1 / 4 < pR d.1 by omega), Bool.and_false] at q
        cases q
    refine ⟨⟨⟨by show v ≤ 4; omega, h2, fun k _ q => ?_, fun k _ q => ?_, ⟨h5, Or.inl eO⟩, h7⟩, fun k _ q => ?_, h9⟩, by omega, s.2⟩
    · have q : pL d.1 k = true := q
      rw [(h0.2 k).1] at q; cases q
    · have q : pD d.1 k = true := q
      rw [(h0.2 k).2] at q; cases q
    · have := noT v k
      rw [this] at q; cases q
theorem rws_ok {t : List Nat} {P P' : Nat} {d d' : Dr} (h : rwsF t P d = .inr (P', d')) (hw : WfD d) (hR : pR d.1 < 4) (hP : P ≤ t.length) : WfD d' ∧ P ≤ P' ∧ P' ≤ t.length := by
  unfold rwsF at h
  cases e : rowF t (pR d.1) (pW d.1) 0 P d.2.1 with
  | inl f => rw [e] at h; cases h
  | inr r =>
    obtain ⟨P1, H⟩ := r
    rw [e] at h
    cases h
    have s := row_le _ _ _ _ _ _ e hP
    obtain ⟨⟨h1, h2, h3, h4, ⟨h5, h6⟩, h7⟩, h8, h9⟩ := hw
    have up : ∀ k, thr d.1 k = true → thr (pW d.1, pR d.1 + 1, pL d.1, pD d.1, pO d.1) k = true := fun k q => by
      unfold thr at q ⊢
      rw [Bool.and_eq_true, decide_eq_true_eq, decide_eq_true_eq] at q ⊢
      exact ⟨q.1, by show k / 4 < pR d.1 + 1; omega⟩
    refine ⟨⟨⟨h1, by show pR d.1 + 1 ≤ 4; omega, fun k a b => up k (h3 k a b), fun k a b => ⟨up k (h4 k a b).1, (h4 k a b).2⟩, ⟨h5, ?_⟩, h7⟩, fun k a b => ?_, h9⟩, s⟩
    · rcases h6 with q | q
      · exact Or.inl q
      · exact Or.inr (up _ q)
    · have b' : thr (pW d.1, pR d.1 + 1, pL d.1, pD d.1, pO d.1) k = true := b
      unfold thr at b'
      rw [Bool.and_eq_true, decide_eq_true_eq, decide_eq_true_eq] at b'
      have b1 : k % 4 < pW d.1 := b'.1
      have b2 : k / 4 < pR d.1 + 1 := b'.2
      show H k ≤ 9
      by_cases q : k / 4 = pR d.1
      · exact row_all _ _ _ _ _ _ e k (by omega) (by omega)
      · rcases row_ok _ _ _ _ _ _ e k with r | r
        · rw [r]
          refine h8 k a ?_
          unfold thr
          rw [decide_eq_true b1, decide_eq_true (show k / 4 < pR d.1 by omega)]
          rfl
        · exact r.2.2
theorem stk_ok {t : List Nat} {P P' : Nat} {d d' : Dr} (h : stkF t P d = .inr (P', d')) (hw : WfD d) (hP : P ≤ t.length) : WfD d' ∧ P ≤ P' ∧ P' ≤ t.length := by
  unfold stkF at h
  cases e : stoF t 4 0 P d.2.2.1 with
  | inl f => rw [e] at h; cases h
  | inr r =>
    obtain ⟨P1, H⟩ := r
    rw [e] at h
    cases h
    exact ⟨⟨hw.1, hw.2.1, sto_ok _ _ _ _ _ _ e hw.2.2⟩, sto_le _ _ _ _ _ _ e hP⟩
theorem cel_ok {t : List Nat} {c P P' : Nat} {d d' : Dr} (h : celF t c P d = .inr (P', d')) (hw : WfD d) : WfD d' ∧ P ≤ P' ∧ P' ≤ t.length := by
  unfold celF at h
  cases e : nmF t P 0 (pW d.1) with
  | none => rw [e] at h; cases h
  | some x =>
    rw [e] at h
    dsimp only at h
    cases e2 : nmF t (tkE t P) 0 (pR d.1) with
    | none => rw [e2] at h; cases h
    | some y =>
      rw [e2] at h
      dsimp only at h
      have hx := (nm_some e).2.2.2
      have hy := (nm_some e2).2.2.2
      have s1 := nm_step e
      have s2 := nm_step e2
      obtain ⟨⟨h1, h2, h3, h4, ⟨h5, h6⟩, h7⟩, h8, h9⟩ := hw
      have hk : 4 * y + x < 16 := by omega
      have tk : thr d.1 (4 * y + x) = true := by
        unfold thr
        rw [decide_eq_true (show (4 * y + x) % 4 < pW d.1 by omega), decide_eq_true (show (4 * y + x) / 4 < pR d.1 by omega)]
        rfl
      by_cases c1 : c = 111
      · rw [if_pos c1] at h
        cases h
        exact ⟨⟨⟨h1, h2, h3, h4, ⟨hk, Or.inr tk⟩, h7⟩, h8, h9⟩, by omega, s2.2⟩
      · rw [if_neg c1] at h
        by_cases c2 : (pL d.1 (4 * y + x) || pD d.1 (4 * y + x)) = true
        · rw [if_pos c2] at h; cases h
        · rw [if_neg c2] at h
          have n1 : pL d.1 (4 * y + x) = false := by
            cases q : pL d.1 (4 * y + x) with
            | false => rfl
            | true => exact absurd (by rw [q]; rfl) c2
          have n2 : pD d.1 (4 * y + x) = false := by
            cases q : pD d.1 (4 * y + x) with
            | false => rfl
            | true => exact absurd (by rw [q]; simp) c2
          have ad : ∀ (f : Nat → Bool) k, addB f (4 * y + x) k = true → f k = true ∨ k = 4 * y + x := fun f k q => by
            unfold addB at q
            rw [Bool.or_eq_true, decide_eq_true_eq] at q
            exact q
          by_cases c3 : c = 108
          · rw [if_pos c3] at h
            cases h
            refine ⟨⟨⟨h1, h2, fun k a b => ?_, fun k a b => ⟨(h4 k a b).1, ?_⟩, ⟨h5, h6⟩, fun k a => ⟨?_, (h7 k a).2⟩⟩, h8, h9⟩, by omega, s2.2⟩
            · rcases ad _ _ b with q | q
              · exact h3 k a q
              · rw [q]; exact tk
            · have b' : pD d.1 k = true := b
              show addB (pL d.1) (4 * y + x) k = false
              unfold addB
              rw [(h4 k a b').2, decide_eq_false (fun q => by rw [q, n2] at b'; cases b')]
              rfl
            · show addB (pL d.1) (4 * y + x) k = false
              unfold addB
              rw [(h7 k a).1, decide_eq_false (by omega)]
              rfl
          · rw [if_neg c3] at h
            cases h
            refine ⟨⟨⟨h1, h2, h3, fun k a b => ?_, ⟨h5, h6⟩, fun k a => ⟨(h7 k a).1, ?_⟩⟩, h8, h9⟩, by omega, s2.2⟩
            · rcases ad _ _ b with q | q
              · exact h4 k a q
              · rw [q]; exact ⟨tk, n1⟩
            · show addB (pD d.1) (4 * y + x) k = false
              unfold addB
              rw [(h7 k a).2, decide_eq_false (by omega)]
              rfl
theorem may_r {i : Nat} {d : Dr} (h : mayF 114 i d = true) : 0 < pW d.1 ∧ d.2.2.2.2.2 = false ∧ pR d.1 < 4 := by
  have h : (decide (0 < pW d.1) && !d.2.2.2.2.2 && decide (pR d.1 < 4)) = true := h
  simp only [Bool.and_eq_true, decide_eq_true_eq, Bool.not_eq_true'] at h
  exact ⟨h.1.1, h.1.2, h.2⟩
theorem itm_ok {t : List Nat} {c i P P' : Nat} {d d' : Dr} (h : itmF t c P d = .inr (P', d')) (hm : mayF c i d = true) (hw : WfD d) (h0 : i = 0 → pR d.1 = 0 ∧ ∀ k, pL d.1 k = false ∧ pD d.1 k = false) (hP : P ≤ t.length) : WfD d' ∧ P ≤ P' ∧ P' ≤ t.length := by
  unfold itmF at h
  by_cases c1 : c = 119
  · rw [if_pos c1] at h
    subst c1
    have hm : decide (i = 0) = true := hm
    exact wid_ok h hw (h0 (by simpa using hm))
  · rw [if_neg c1] at h
    by_cases c2 : c = 114
    · rw [if_pos c2] at h
      subst c2
      exact rws_ok h hw (may_r hm).2.2 hP
    · rw [if_neg c2] at h
      by_cases c3 : c = 115
      · rw [if_pos c3] at h
        exact stk_ok h hw hP
      · rw [if_neg c3] at h
        exact cel_ok h hw
theorem par_ok {t : List Nat} : ∀ (f i P : Nat) (d : Dr) (i' : Nat) (d' : Dr), parF t f i P d = .inr (i', d') → WfD d → (i = 0 → pR d.1 = 0 ∧ ∀ k, pL d.1 k = false ∧ pD d.1 k = false) → P ≤ t.length → 2 * i ≤ P → WfD d' ∧ i' ≤ 75 + t.length := by
  intro f
  induction f with
  | zero => intro i P d i' d' h; cases h
  | succ f ih =>
    intro i P d i' d' h hw h0 hP h2
    have h : (if tkK t P = 0 then Sum.inr (i, d) else match (if tkK t P = 1 then tkV t P else none) with
      | none => Sum.inl (tkS t P)
      | some c => if mayF c i d = true then (match itmF t c (tkE t P) d with
        | .inl e => Sum.inl e
        | .inr (P', d') => if tkK t P' = 3 then parF t f (i + 1) (tkE t P') d' else .inl (tkS t P')) else .inl (tkS t P)) = .inr (i', d') := h
    by_cases k0 : tkK t P = 0
    · rw [if_pos k0] at h
      cases h
      exact ⟨hw, by omega⟩
    · rw [if_neg k0] at h
      cases e : (if tkK t P = 1 then tkV t P else none) with
      | none => rw [e] at h; cases h
      | some c =>
        rw [e] at h
        dsimp only at h
        by_cases m : mayF c i d = true
        · rw [if_pos m] at h
          cases e2 : itmF t c (tkE t P) d with
          | inl x => rw [e2] at h; cases h
          | inr r =>
            obtain ⟨P1, d1⟩ := r
            rw [e2] at h
            dsimp only at h
            have g := tkE_gt k0
            have sg := tkS_ge t P
            obtain ⟨w1, w2, w3⟩ := itm_ok e2 m hw h0 g.2
            by_cases k3 : tkK t P1 = 3
            · rw [if_pos k3] at h
              have g3 := tkE_gt (t := t) (P := P1) (by omega)
              have sg3 := tkS_ge t P1
              exact ih (i + 1) (tkE t P1) d1 i' d' h w1 (fun q => absurd q (by omega)) g3.2 (by omega)
            · rw [if_neg k3] at h; cases h
        · rw [if_neg m] at h; cases h
