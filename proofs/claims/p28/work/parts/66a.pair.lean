/-! ===== two yards ===== -/
def Sc (M M1 : Mem) : Prop := M1.1 104 = M.1 104 ∧ M1.1 105 = M.1 105
theorem Sc.refl (M : Mem) : Sc M M := ⟨rfl, rfl⟩
theorem Sc.trans {M M' M'' : Mem} (h : Sc M M') (h' : Sc M' M'') : Sc M M'' := ⟨h'.1.trans h.1, h'.2.trans h.2⟩
/-- the first yard's state, the second's -/
def DD (s t : Sg) (M : Mem) : Prop := RC s M ∧ RC t (swp M)
theorem RC.low {s : Sg} {M M' : Mem} (h : RC s M) (hf : ∀ q, q < 37 → M'.1 q = M.1 q) (h2 : M'.2 0 = M.2 0) : RC s M' := h.of_eq (fun q hq _ => hf q hq) h2
theorem frc_q {t : Sg} {M M1 : Mem} (h : RC t (swp M)) (hf : FrC M M1) : RC t (swp M1) :=
  h.low (fun q hq => by
    have e : sg q = q + 37 := by unfold sg; rw [if_pos hq]
    show M1.1 (sg q) = M.1 (sg q)
    rw [e]
    exact hf.1 _ (by omega)) hf.2
theorem frc_o {t : Sg} {M M1 : Mem} (h : RC t M) (hf : FrC (swp M) (swp M1)) : RC t M1 :=
  h.low (fun q hq => by
    have e : sg (q + 37) = q := by unfold sg; rw [if_neg (by omega), if_pos (by omega)]; omega
    have := hf.1 (q + 37) (by omega)
    have e1 : M1.1 (sg (q + 37)) = M.1 (sg (q + 37)) := this
    rw [e] at e1
    exact e1) hf.2
theorem frc_sc {M M1 : Mem} (hf : FrC M M1) : Sc M M1 := ⟨hf.1 104 (by decide), hf.1 105 (by decide)⟩
theorem frc_scq {M M1 : Mem} (hf : FrC (swp M) (swp M1)) : Sc M M1 := by
  have h1 : M1.1 (sg 104) = M.1 (sg 104) := hf.1 104 (by decide)
  have h2 : M1.1 (sg 105) = M.1 (sg 105) := hf.1 105 (by decide)
  rw [sg_far (by decide)] at h1 h2
  exact ⟨h1, h2⟩
/-- a walk of the first yard, told of the second -/
theorem WX.toQ {mi : Mi} {d n : Nat} {as : List Value} {M : Mem} {Q : Option Value → Mem → Prop} (ha : as.map sgV = as) (h : WX mi d (fun rv M1 => Q (rv.map sgV) (swp M1)) 0 (entL n (.ref 0 :: as)) [] (swp M)) : WX mi d Q 0 (entL n (.ref 37 :: as)) [] M := by
  have h1 := WX.swap (Q := Q) h
  rw [swp_swp] at h1
  have e : (entL n (.ref 0 :: as)).map (Option.map sgV) = entL n (.ref 37 :: as) := by
    unfold entL
    rw [List.map_append, List.map_replicate, List.map_map]
    have e2 : List.map (Option.map sgV ∘ some) (Value.ref 0 :: as) = List.map some (Value.ref 37 :: as) := by
      rw [show (Option.map sgV ∘ some : Value → Option Value) = some ∘ sgV from rfl, ← List.map_map]
      rw [List.map_cons, ha]
      rfl
    rw [e2]
    rfl
  rw [e] at h1
  exact h1
theorem K0.o {a : Mi} {da : Nat} {as : List Value} {s s' : Sg} {r : Value} (k : K0 a da as s r s') {t : Sg} {M : Mem} {Q : Option Value → Mem → Prop} (h : DD s t M) (hQ : ∀ M1, DD s' t M1 → Sc M M1 → Q (some r) M1) : WX a da Q 0 (entL a.2.2.1 (.ref 0 :: as)) [] M :=
  k M Q h.1 (fun M1 h1 hf => hQ M1 ⟨h1, frc_q h.2 hf⟩ (frc_sc hf))
theorem K0.q {a : Mi} {da : Nat} {as : List Value} {s s' : Sg} {r : Value} (k : K0 a da as s r s') (ha : as.map sgV = as) (hr : sgV r = r) {t : Sg} {M : Mem} {Q : Option Value → Mem → Prop} (h : DD t s M) (hQ : ∀ M1, DD t s' M1 → Sc M M1 → Q (some r) M1) : WX a da Q 0 (entL a.2.2.1 (.ref 37 :: as)) [] M := by
  refine WX.toQ ha (k (swp M) _ h.2 (fun M1 h1 hf => ?_))
  show Q (some (sgV r)) (swp M1)
  rw [hr]
  have hf' : FrC (swp M) (swp (swp M1)) := by rw [swp_swp]; exact hf
  exact hQ (swp M1) ⟨frc_o h.1 hf', by rw [swp_swp]; exact h1⟩ (frc_scq hf')
