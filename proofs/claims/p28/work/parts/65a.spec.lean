/-! ===== what a call of the class does, answer and new state fixed ahead of the memory ===== -/
/-- from s the call answers r and leaves s', wherever s lies -/
def K0 (a : Mi) (da : Nat) (as : List Value) (s : Sg) (r : Value) (s' : Sg) : Prop :=
  ∀ (M : Mem) (Q : Option Value → Mem → Prop), RC s M → (∀ M1, RC s' M1 → FrC M M1 → Q (some r) M1) → WX a da Q 0 (entL a.2.2.1 (.ref 0 :: as)) [] M
/-- the call answers r and leaves the yard as it is -/
def K1 (a : Mi) (da : Nat) (as : List Value) (s : Sg) (r : Value) : Prop :=
  ∀ (M : Mem) (Q : Option Value → Mem → Prop), RC s M → (∀ M1, (∀ q, q < 37 → ¬ scrC q → M1.1 q = M.1 q) → (∀ q, 37 ≤ q → M1.1 q = M.1 q) → M1.2 = M.2 → Q (some r) M1) → WX a da Q 0 (entL a.2.2.1 (.ref 0 :: as)) [] M
theorem K1.k0 {a : Mi} {da : Nat} {as : List Value} {s : Sg} {r : Value} (h : K1 a da as s r) : K0 a da as s r s :=
  fun M Q hc hQ => h M Q hc (fun M1 e1 e2 e3 => hQ M1 (hc.of_eq e1 (by rw [e3])) ⟨e2, by rw [e3]⟩)
/-- no state has had more days -/
def Dy (n : Nat) (s : Sg) : Prop := gDy s.2.2.1.1 ≤ n ∧ (∀ gh, s.2.2.2.1.1 = some gh → gDy gh.1 ≤ n) ∧ (∀ gh, s.2.2.2.1.2 = some gh → gDy gh.1 ≤ n)
/-- the text and the plot stay, the days are one more at most -/
def Tm (s s' : Sg) : Prop := s'.1 = s.1 ∧ s'.2.1 = s.2.1 ∧ ∀ n, Dy n s → Dy (n + 1) s'
/-- something was done that may be undone -/
def Act (s s' : Sg) : Prop := ∃ e g', gDy g' ≤ gDy s.2.2.1.1 + 1 ∧ s' = (s.1, s.2.1, (g', more e s.2.2.1.1 s.2.2.1.2), s.2.2.2)
theorem Tm.mk' {s s' : Sg} (h1 : s'.1 = s.1) (h2 : s'.2.1 = s.2.1) (h3 : ∀ n, Dy n s → gDy s'.2.2.1.1 ≤ n + 1) (h4 : ∀ n, Dy n s → ∀ gh, s'.2.2.2.1.1 = some gh → gDy gh.1 ≤ n + 1) (h5 : ∀ n, Dy n s → ∀ gh, s'.2.2.2.1.2 = some gh → gDy gh.1 ≤ n + 1) : Tm s s' :=
  ⟨h1, h2, fun n h => ⟨h3 n h, h4 n h, h5 n h⟩⟩
theorem Tm.of {s s' : Sg} (h1 : s'.1 = s.1) (h2 : s'.2.1 = s.2.1) (h3 : s'.2.2.1 = s.2.2.1) (h4 : s'.2.2.2.1 = s.2.2.2.1) : Tm s s' :=
  Tm.mk' h1 h2 (fun n h => by rw [h3]; exact Nat.le_succ_of_le h.1) (fun n h gh e => by rw [h4] at e; exact Nat.le_succ_of_le (h.2.1 gh e)) (fun n h gh e => by rw [h4] at e; exact Nat.le_succ_of_le (h.2.2 gh e))
theorem Act.tm {s s' : Sg} (h : Act s s') : Tm s s' := by
  obtain ⟨e, g', hd, rfl⟩ := h
  exact Tm.mk' rfl rfl (fun n h => by have := h.1; show gDy g' ≤ _; omega) (fun n h gh e => Nat.le_succ_of_le (h.2.1 gh e)) (fun n h gh e => Nat.le_succ_of_le (h.2.2 gh e))
theorem inj4 : ∀ k, k < 16 → ∀ j, j < 16 → nI (k % 4) = nI (j % 4) → nI (k / 4) = nI (j / 4) → k = j := by decide +kernel
theorem rs_st {p : Pl} {g : Gd} {k h : Nat} (hk : k < 16) (hh : h ≤ 9) (hst : pD p k = true ∨ gHt g k = h) : ∀ k' h', k' < 16 → h' ≤ 9 → nI (k % 4) = nI (k' % 4) → nI (k / 4) = nI (k' / 4) → nI h = nI h' → thr p k' = true → pD p k' = false → gHt g k' = h' := by
  intro k' h' hk' hh' e1 e2 e3 _ hd
  have ek := inj4 k hk k' hk' e1 e2
  subst ek
  have eh := (nI_eq (a := h) (b := h') (by omega) (by omega)).mp e3
  subst eh
  rcases hst with q | q
  · rw [hd] at q; cases q
  · exact q
theorem rs_bad {p : Pl} {g : Gd} {x y v : Int32} (hb : ¬ (okc p x y = true ∧ 0 ≤ v ∧ v ≤ 9)) : ∀ k' h', k' < 16 → h' ≤ 9 → x = nI (k' % 4) → y = nI (k' / 4) → v = nI h' → thr p k' = true → pD p k' = false → gHt g k' = h' := by
  intro k' h' hk' hh' e1 e2 e3 ht _
  subst e1 e2 e3
  refine absurd ⟨by rw [okc_thr hk']; exact ht, ?_⟩ hb
  have : ∀ h, h < 10 → (0 : Int32) ≤ nI h ∧ nI h ≤ 9 := by decide
  exact this h' (by omega)
theorem ce_bad {p : Pl} {g : Gd} {x y w r : Int32} (ho : okc p x y = false) : ∀ k', k' < 16 → x = nI (k' % 4) → y = nI (k' / 4) → thr p k' = true → w = 0 → r = nI (gHt g k') := by
  intro k' hk' e1 e2 ht _
  subst e1 e2
  rw [okc_thr hk', ht] at ho
  cases ho
theorem ce_ok {p : Pl} {g : Gd} {k : Nat} {w : Int32} (hk : k < 16) : ∀ k', k' < 16 → nI (k % 4) = nI (k' % 4) → nI (k / 4) = nI (k' / 4) → thr p k' = true → w = 0 → celA p g k w = nI (gHt g k') := by
  intro k' hk' e1 e2 _ hw
  have ek := inj4 k hk k' hk' e1 e2
  subst ek
  unfold celA
  rw [if_pos hw]
