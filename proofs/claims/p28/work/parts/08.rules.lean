/-! ===== some more rules for the printed walks ===== -/
theorem vp_lit {i : Int32} {n : Nat} (h : (decide (i < 0) || Nat.ble n i.toNatClampNeg) = false) : vp_in i n := by
  intro q
  simp only [Bool.or_eq_false_iff, decide_eq_false_iff_not] at h
  rcases q with q | q
  · exact h.1 q
  · rw [Nat.ble_eq_true_of_le q] at h
    cases h.2
def fgt : List (Option Value) → List (Option Value) → Prop
  | [], [] => True
  | a :: l, b :: r => (a = none ∨ a = b) ∧ fgt l r
  | _, _ => False
theorem fgt_len : ∀ (l r : List (Option Value)), fgt l r → l.length = r.length
  | [], [], _ => rfl
  | _ :: l, _ :: r, h => by rw [List.length_cons, List.length_cons, fgt_len l r h.2]
theorem fgt_at : ∀ (l r : List (Option Value)), fgt l r → ∀ i v, gl l i = some v → gl r i = some v
  | [], [], _, _, _, h => h
  | a :: l, b :: r, h, 0, v, hv => by
    rcases h.1 with e | e
    · subst e; cases hv
    · subst e; exact hv
  | a :: l, b :: r, h, i + 1, v, hv => fgt_at l r h.2 i v hv
section RUL
variable {mi : Mi} {d : Nat} {Q : Option Value → Mem → Prop} {pc idx : Nat} {L L' : List (Option Value)} {st : List Value} {M : Mem}
theorem WX.forget2 (h : WX mi d Q pc L' st M) (hf : fgt L' L) : WX mi d Q pc L st M := h.forget (fgt_len _ _ hf) (fgt_at _ _ hf)
def tswo (dflt lo hi : Int) (offs : Array Int) (v : Int) : Int := if v < lo ∨ hi < v then dflt else (offs[(v - lo).toNat]?).getD dflt
theorem WX.tsw {dflt lo hi : Int} {offs : Array Int} {len : Nat} {x : Int32} {tgt : Nat} (hf : mi.2.2.2.2.2 pc = some (.tableswitch dflt lo hi offs, len)) (hn : (offs.size : Int) = hi - lo + 1) (ht : (pc : Int) + tswo dflt lo hi offs x.toInt = (tgt : Int)) (k : WX mi d Q tgt L st M) : WX mi d Q pc L (.int x :: st) M := by
  unfold tswo at ht
  by_cases h : x.toInt < lo ∨ hi < x.toInt
  · rw [if_pos h] at ht
    exact WX.tswOut hf h ht k
  · rw [if_neg h] at ht
    have h1 : ¬ x.toInt < lo := fun q => h (Or.inl q)
    have h2 : ¬ hi < x.toInt := fun q => h (Or.inr q)
    have hlt : (x.toInt - lo).toNat < offs.size := by omega
    rw [Array.getElem?_eq_getElem hlt] at ht
    exact WX.tswIn hf h1 h2 (Array.getElem?_eq_getElem hlt) ht k
theorem i32_ne {x k : Int32} {n : Int} (h : ¬ x = k) (hk : k.toInt = n) : ¬ x.toInt = n := fun q => h (Int32.toInt_inj.mp (q.trans hk.symm))
theorem WX.mmin {x y : Int32} (hf : mi.2.2.2.2.2 pc = some (.invokestatic idx, 3)) (hl : Cond.methodLink (RXn mi.1) idx Lib.Math.min.name ∈ gTbl) (hd : 1 ≤ d) (hr : (st.map fun v => v.category).sum + 13 ≤ 64) (k : WX mi d Q (pc + 3) L (.int (if y < x then y else x) :: st) M) : WX mi d Q pc L (.int y :: .int x :: st) M := by
  intro p l e R s m args below meth c cells slots Qr G C E H locs ls hR hL
  obtain ⟨hx, hb, hml, hown, hts, hdf, hdl, hcl, hsl, hF, hfo⟩ := id C
  exact va_mmin (rest := st.map (rl G.2.1)) hx hb (hml.trans hL.2.1.1.symm) hown (hts _ hl) (hts _ (inAt_g (i := 545) (by decide +kernel) rfl)) (hts _ (inAt_g (i := 17) (by decide +kernel) rfl)) (hts _ (inAt_g (i := 546) (by decide +kernel) rfl)) (by omega) (by rw [cat_sum]; omega) hcl hsl (hfo _ _ hf) (k p l e R s m args below meth c cells slots Qr G C E H locs ls hR hL)
theorem WX.mabs {x : Int32} (hf : mi.2.2.2.2.2 pc = some (.invokestatic idx, 3)) (hl : Cond.methodLink (RXn mi.1) idx Lib.Math.abs.name ∈ gTbl) (hd : 1 ≤ d) (hr : (st.map fun v => v.category).sum + 13 ≤ 64) (k : WX mi d Q (pc + 3) L (.int (if 0 ≤ x then x else 0 - x) :: st) M) : WX mi d Q pc L (.int x :: st) M := by
  intro p l e R s m args below meth c cells slots Qr G C E H locs ls hR hL
  obtain ⟨hx, hb, hml, hown, hts, hdf, hdl, hcl, hsl, hF, hfo⟩ := id C
  exact va_mabs (rest := st.map (rl G.2.1)) hx hb (hml.trans hL.2.1.1.symm) hown (hts _ hl) (hts _ (inAt_g (i := 516) (by decide +kernel) rfl)) (hts _ (inAt_g (i := 17) (by decide +kernel) rfl)) (hts _ (inAt_g (i := 517) (by decide +kernel) rfl)) (by omega) (by rw [cat_sum]; omega) hcl hsl (hfo _ _ hf) (k p l e R s m args below meth c cells slots Qr G C E H locs ls hR hL)
end RUL
