/-! ===== the law's loop, over any invariant of both: each pair of calls by its agreement; printed by wip/gen/p12.py ===== -/
def Scr (M M' : Mem) : Prop := M'.1 104 = M.1 104 ∧ M'.1 105 = M.1 105
/-- two calls with the same arguments, the class's first: they answer alike, and the invariant holds behind them -/
def Agr (Inv : Nat → Mem → Prop) (a b : Mi) (da db : Nat) (as : List Value) : Prop := ∀ (i : Nat) (M : Mem), i ≤ 2560 → Inv i M → ∀ QC : Option Value → Mem → Prop,
  (∀ (r : Int32) (M1 : Mem), Scr M M1 → (∀ QM : Option Value → Mem → Prop, (∀ M2, Inv (i + 1) M2 → Scr M M2 → QM (some (.int r)) M2) → WX b db QM 0 (entL b.2.2.1 (.ref 37 :: as)) [] M1) → QC (some (.int r)) M1) → WX a da QC 0 (entL a.2.2.1 (.ref 0 :: as)) [] M
def AgrL (Inv : Nat → Mem → Prop) (a b : Mi) (da db : Nat) (as : List Value) : Prop := ∀ (i : Nat) (M : Mem), i ≤ 2560 → Inv i M → ∀ QC : Option Value → Mem → Prop,
  (∀ (r : Int64) (M1 : Mem), Scr M M1 → (∀ QM : Option Value → Mem → Prop, (∀ M2, Inv (i + 1) M2 → Scr M M2 → QM (some (.long r)) M2) → WX b db QM 0 (entL b.2.2.1 (.ref 37 :: as)) [] M1) → QC (some (.long r)) M1) → WX a da QC 0 (entL a.2.2.1 (.ref 0 :: as)) [] M
theorem bnd_of {L i k : Nat} (hL : L ≤ 2560) (h : ¬ (nI L - 5) < nI i) (hi : i ≤ L) (hk : k ≤ 4) : vp_in (nI i + nI k) (nI L).toNatClampNeg := by
  have h1 : (nI L - 5).toInt = (L : Int) - 5 := by rw [Jvm.Kit.i32_sub (by rw [nI_toInt (by omega), show (5 : Int32).toInt = 5 from rfl]; omega) (by rw [nI_toInt (by omega), show (5 : Int32).toInt = 5 from rfl]; omega), nI_toInt (by omega)]; rfl
  have h2 : ¬ (nI L - 5).toInt < (nI i).toInt := fun q => h (Int32.lt_iff_toInt_lt.mpr q)
  rw [h1, nI_toInt (by omega)] at h2
  rw [nI_add, nI_clamp (by omega)]
  exact vp_in_nI (by omega) (by omega)
theorem bnd_lt {L i : Nat} (hL : L ≤ 2560) (h : ¬ (nI L - 5) < nI i) (hi : i ≤ L) : i + 5 ≤ L := by
  have h1 : (nI L - 5).toInt = (L : Int) - 5 := by rw [Jvm.Kit.i32_sub (by rw [nI_toInt (by omega), show (5 : Int32).toInt = 5 from rfl]; omega) (by rw [nI_toInt (by omega), show (5 : Int32).toInt = 5 from rfl]; omega), nI_toInt (by omega)]; rfl
  have h2 : ¬ (nI L - 5).toInt < (nI i).toInt := fun q => h (Int32.lt_iff_toInt_lt.mpr q)
  rw [h1, nI_toInt (by omega)] at h2
  omega
set_option maxHeartbeats 4000000 in
theorem law_loop {Inv : Nat → Mem → Prop} {Q : Option Value → Mem → Prop} (hq : ∀ M, Q (some (.int 1)) M) (hup : ∀ i M, Inv i M → Inv (i + 1) M) (hcell : ∀ i M, Inv i M → True)
    (a_type : (∀ x0 : Int32, Agr Inv mi_C_type mi_M_type 2 2 [.int x0]))
    (a_clear : (Agr Inv mi_C_clear mi_M_clear 1 1 []))
    (a_yard : (Agr Inv mi_C_yard mi_M_yard 7 6 []))
    (a_cell : (∀ x0 x1 x2 : Int32, Agr Inv mi_C_cell mi_M_cell 5 3 [.int x0, .int x1, .int x2]))
    (a_lays : (∀ x0 x1 x2 : Int32, Agr Inv mi_C_lays mi_M_lays 5 5 [.int x0, .int x1, .int x2]))
    (a_lifts : (∀ x0 x1 : Int32, Agr Inv mi_C_lifts mi_M_lifts 5 4 [.int x0, .int x1]))
    (a_raises : (∀ x0 x1 x2 : Int32, Agr Inv mi_C_raises mi_M_raises 4 3 [.int x0, .int x1, .int x2]))
    (a_day : (Agr Inv mi_C_day mi_M_day 3 2 []))
    (a_undo : (Agr Inv mi_C_undo mi_M_undo 5 1 []))
    (a_now : (∀ x0 : Int32, Agr Inv mi_C_now mi_M_now 5 6 [.int x0]))
    (a_stock : (∀ x0 : Int32, Agr Inv mi_C_stock mi_M_stock 2 2 [.int x0]))
    (a_drop : (∀ x0 x1 x2 : Int32, Agr Inv mi_C_drop mi_M_drop 5 5 [.int x0, .int x1, .int x2]))
    (a_feeds : (∀ x0 x1 : Int32, Agr Inv mi_C_feeds mi_M_feeds 5 6 [.int x0, .int x1]))
    (a_mend : (∀ x0 : Int32, Agr Inv mi_C_mend mi_M_mend 5 6 [.int x0]))
    (a_plan : (∀ x0 : Int32, Agr Inv mi_C_plan mi_M_plan 26 6 [.int x0]))
    (a_barrow : (∀ x0 x1 : Int32, Agr Inv mi_C_barrow mi_M_barrow 5 6 [.int x0, .int x1]))
    (a_odds : (∀ x0 x1 x2 x3 : Int32, Agr Inv mi_C_odds mi_M_odds 2 2 [.int x0, .int x1, .int x2, .int x3]))
    (a_saw : (∀ x0 x1 : Int32, Agr Inv mi_C_saw mi_M_saw 3 4 [.int x0, .int x1]))
    (a_forget : (Agr Inv mi_C_forget mi_M_forget 1 1 []))
    (a_from : (Agr Inv mi_C_from mi_M_from 5 6 []))
    (a_mark : (∀ x0 x1 x2 : Int32, Agr Inv mi_C_mark mi_M_mark 6 4 [.int x0, .int x1, .int x2]))
    (a_keep : (∀ x0 : Int32, Agr Inv mi_C_keep mi_M_keep 2 2 [.int x0]))
    (a_back : (∀ x0 : Int32, Agr Inv mi_C_back mi_M_back 2 2 [.int x0]))
    (a_count : (∀ x0 : Int32, Agr Inv mi_C_count mi_M_count 1 1 [.int x0]))
    (a_trace : (AgrL Inv mi_C_trace mi_M_trace 1 1 [])) :
    ∀ (n i j L : Nat) (M : Mem), L ≤ 2560 → i ≤ L → L < i + n → j ≤ i → Inv j M → M.1 105 0 = nI L → WX mi_law 27 Q 18 [some (.ref 104), some (.ref 0), some (.ref 37), some (.int (nI i))] [] M := by
  intro n
  induction n with
  | zero => intro i j L M hL hi hn _ _ _; omega
  | succ n ih =>
    intro i j L M hL hi hn hj hI hM
    have back : ∀ (M2 : Mem), ¬ (nI L - 5) < nI i → Inv (j + 1) M2 → Scr M M2 → WX mi_law 27 Q 18 [some (.ref 104), some (.ref 0), some (.ref 37), some (.int (nI i + 5))] [] M2 := by
      intro M2 hc h1 h2
      have := bnd_lt hL hc hi
      rw [show (nI i + 5 : Int32) = nI (i + 5) from nI_add i 5]
      exact ih (i + 5) (j + 1) L M2 hL this (by omega) (by omega) h1 (by rw [h2.2]; exact hM)
    refine sg_law_18 M (nI i)
      (fun c0 => hq M)
      (fun c0 => by have h := bnd_of (k := 0) hL (by rw [← hM]; exact c0) hi (by decide); rw [← hM] at h; rw [show nI i + nI 0 = nI i from by rw [nI_add]; rfl] at h; exact h)
      (fun c0 c1 => by have h := bnd_of (k := 1) hL (by rw [← hM]; exact c0) hi (by decide); rw [← hM] at h; exact h)
      (fun c0 c1 => ?_)
      (fun c0 c1 => ?_)
      (fun c0 c1 => ?_)
      (fun c0 c1 => by have h := bnd_of (k := 1) hL (by rw [← hM]; exact c0) hi (by decide); rw [← hM] at h; exact h)
      (fun c0 c1 => by have h := bnd_of (k := 2) hL (by rw [← hM]; exact c0) hi (by decide); rw [← hM] at h; exact h)
      (fun c0 c1 => by have h := bnd_of (k := 3) hL (by rw [← hM]; exact c0) hi (by decide); rw [← hM] at h; exact h)
      (fun c0 c1 => ?_)
      (fun c0 c1 => by have h := bnd_of (k := 1) hL (by rw [← hM]; exact c0) hi (by decide); rw [← hM] at h; exact h)
      (fun c0 c1 => by have h := bnd_of (k := 2) hL (by rw [← hM]; exact c0) hi (by decide); rw [← hM] at h; exact h)
      (fun c0 c1 => by have h := bnd_of (k := 3) hL (by rw [← hM]; exact c0) hi (by decide); rw [← hM] at h; exact h)
      (fun c0 c1 => ?_)
      (fun c0 c1 => by have h := bnd_of (k := 1) hL (by rw [← hM]; exact c0) hi (by decide); rw [← hM] at h; exact h)
      (fun c0 c1 => by have h := bnd_of (k := 2) hL (by rw [← hM]; exact c0) hi (by decide); rw [← hM] at h; exact h)
      (fun c0 c1 => ?_)
      (fun c0 c1 => by have h := bnd_of (k := 1) hL (by rw [← hM]; exact c0) hi (by decide); rw [← hM] at h; exact h)
      (fun c0 c1 => by have h := bnd_of (k := 2) hL (by rw [← hM]; exact c0) hi (by decide); rw [← hM] at h; exact h)
      (fun c0 c1 => by have h := bnd_of (k := 3) hL (by rw [← hM]; exact c0) hi (by decide); rw [← hM] at h; exact h)
      (fun c0 c1 => ?_)
      (fun c0 c1 => ?_)
      (fun c0 c1 => ?_)
      (fun c0 c1 => by have h := bnd_of (k := 1) hL (by rw [← hM]; exact c0) hi (by decide); rw [← hM] at h; exact h)
      (fun c0 c1 => ?_)
      (fun c0 c1 => by have h := bnd_of (k := 1) hL (by rw [← hM]; exact c0) hi (by decide); rw [← hM] at h; exact h)
      (fun c0 c1 => ?_)
      (fun c0 c1 => by have h := bnd_of (k := 1) hL (by rw [← hM]; exact c0) hi (by decide); rw [← hM] at h; exact h)
      (fun c0 c1 => by have h := bnd_of (k := 2) hL (by rw [← hM]; exact c0) hi (by decide); rw [← hM] at h; exact h)
      (fun c0 c1 => by have h := bnd_of (k := 3) hL (by rw [← hM]; exact c0) hi (by decide); rw [← hM] at h; exact h)
      (fun c0 c1 => ?_)
      (fun c0 c1 => by have h := bnd_of (k := 1) hL (by rw [← hM]; exact c0) hi (by decide); rw [← hM] at h; exact h)
      (fun c0 c1 => by have h := bnd_of (k := 2) hL (by rw [← hM]; exact c0) hi (by decide); rw [← hM] at h; exact h)
      (fun c0 c1 => ?_)
      (fun c0 c1 => by have h := bnd_of (k := 1) hL (by rw [← hM]; exact c0) hi (by decide); rw [← hM] at h; exact h)
      (fun c0 c1 => ?_)
      (fun c0 c1 => by have h := bnd_of (k := 1) hL (by rw [← hM]; exact c0) hi (by decide); rw [← hM] at h; exact h)
      (fun c0 c1 => ?_)
      (fun c0 c1 => by have h := bnd_of (k := 1) hL (by rw [← hM]; exact c0) hi (by decide); rw [← hM] at h; exact h)
      (fun c0 c1 => by have h := bnd_of (k := 2) hL (by rw [← hM]; exact c0) hi (by decide); rw [← hM] at h; exact h)
      (fun c0 c1 => ?_)
      (fun c0 c1 => by have h := bnd_of (k := 1) hL (by rw [← hM]; exact c0) hi (by decide); rw [← hM] at h; exact h)
      (fun c0 c1 => by have h := bnd_of (k := 2) hL (by rw [← hM]; exact c0) hi (by decide); rw [← hM] at h; exact h)
      (fun c0 c1 => by have h := bnd_of (k := 3) hL (by rw [← hM]; exact c0) hi (by decide); rw [← hM] at h; exact h)
      (fun c0 c1 => by have h := bnd_of (k := 4) hL (by rw [← hM]; exact c0) hi (by decide); rw [← hM] at h; exact h)
      (fun c0 c1 => ?_)
      (fun c0 c1 => by have h := bnd_of (k := 1) hL (by rw [← hM]; exact c0) hi (by decide); rw [← hM] at h; exact h)
      (fun c0 c1 => by have h := bnd_of (k := 2) hL (by rw [← hM]; exact c0) hi (by decide); rw [← hM] at h; exact h)
      (fun c0 c1 => ?_)
      (fun c0 c1 => ?_)
      (fun c0 c1 => ?_)
      (fun c0 c1 => by have h := bnd_of (k := 1) hL (by rw [← hM]; exact c0) hi (by decide); rw [← hM] at h; exact h)
      (fun c0 c1 => by have h := bnd_of (k := 2) hL (by rw [← hM]; exact c0) hi (by decide); rw [← hM] at h; exact h)
      (fun c0 c1 => by have h := bnd_of (k := 3) hL (by rw [← hM]; exact c0) hi (by decide); rw [← hM] at h; exact h)
      (fun c0 c1 => ?_)
      (fun c0 c1 => by have h := bnd_of (k := 1) hL (by rw [← hM]; exact c0) hi (by decide); rw [← hM] at h; exact h)
      (fun c0 c1 => ?_)
      (fun c0 c1 => by have h := bnd_of (k := 1) hL (by rw [← hM]; exact c0) hi (by decide); rw [← hM] at h; exact h)
      (fun c0 c1 => ?_)
      (fun c0 c1 => by have h := bnd_of (k := 1) hL (by rw [← hM]; exact c0) hi (by decide); rw [← hM] at h; exact h)
      (fun c0 c1 => ?_)
      (fun c0 c1 => ?_)
      (fun c0 c1 c2 c3 c4 c5 c6 c7 c8 c9 c10 c11 c12 c13 c14 c15 c16 c17 c18 c19 c20 c21 c22 c23 c24 c25 => ?_)
    · have c0' : ¬ (nI L - 5) < nI i := by rw [← hM]; exact c0
      refine a_type _ j M (by omega) hI _ (fun r M1 hs1 hM1 => ?_)
      show WX mi_law 27 Q 157 [some (.ref 104), some (.ref 0), some (.ref 37), some (.int (nI i))] [.int r] M1
      have hM1' : M1.1 105 0 = nI L := by rw [hs1.2]; exact hM
      refine sg_law_157 M1 (nI i) r (by have h := bnd_of (k := 1) hL c0' hi (by decide); rw [← hM1'] at h; exact h) ?_
      rw [hs1.1]
      refine hM1 _ (fun M2 hI2 hs2 => ?_)
      show WX mi_law 27 Q 166 [some (.ref 104), some (.ref 0), some (.ref 37), some (.int (nI i))] [.int r, .int r] M2
      refine sg_law_166 M2 (nI i) r r (fun _ => back M2 c0' hI2 hs2) (fun c => absurd rfl c)
    · have c0' : ¬ (nI L - 5) < nI i := by rw [← hM]; exact c0
      refine a_clear  j M (by omega) hI _ (fun r M1 hs1 hM1 => ?_)
      show WX mi_law 27 Q 175 [some (.ref 104), some (.ref 0), some (.ref 37), some (.int (nI i))] [.int r] M1
      have hM1' : M1.1 105 0 = nI L := by rw [hs1.2]; exact hM
      refine sg_law_175 M1 (nI i) r ?_
      skip
      refine hM1 _ (fun M2 hI2 hs2 => ?_)
      show WX mi_law 27 Q 179 [some (.ref 104), some (.ref 0), some (.ref 37), some (.int (nI i))] [.int r, .int r] M2
      refine sg_law_179 M2 (nI i) r r (fun _ => back M2 c0' hI2 hs2) (fun c => absurd rfl c)
    · have c0' : ¬ (nI L - 5) < nI i := by rw [← hM]; exact c0
      refine a_yard  j M (by omega) hI _ (fun r M1 hs1 hM1 => ?_)
      show WX mi_law 27 Q 188 [some (.ref 104), some (.ref 0), some (.ref 37), some (.int (nI i))] [.int r] M1
      have hM1' : M1.1 105 0 = nI L := by rw [hs1.2]; exact hM
      refine sg_law_188 M1 (nI i) r ?_
      skip
      refine hM1 _ (fun M2 hI2 hs2 => ?_)
      show WX mi_law 27 Q 192 [some (.ref 104), some (.ref 0), some (.ref 37), some (.int (nI i))] [.int r, .int r] M2
      refine sg_law_192 M2 (nI i) r r (fun _ => back M2 c0' hI2 hs2) (fun c => absurd rfl c)
    · have c0' : ¬ (nI L - 5) < nI i := by rw [← hM]; exact c0
      refine a_cell _ _ _ j M (by omega) hI _ (fun r M1 hs1 hM1 => ?_)
      show WX mi_law 27 Q 216 [some (.ref 104), some (.ref 0), some (.ref 37), some (.int (nI i))] [.int r] M1
      have hM1' : M1.1 105 0 = nI L := by rw [hs1.2]; exact hM
      refine sg_law_216 M1 (nI i) r (by have h := bnd_of (k := 1) hL c0' hi (by decide); rw [← hM1'] at h; exact h) (by have h := bnd_of (k := 2) hL c0' hi (by decide); rw [← hM1'] at h; exact h) (by have h := bnd_of (k := 3) hL c0' hi (by decide); rw [← hM1'] at h; exact h) ?_
      rw [hs1.1]
      refine hM1 _ (fun M2 hI2 hs2 => ?_)
      show WX mi_law 27 Q 235 [some (.ref 104), some (.ref 0), some (.ref 37), some (.int (nI i))] [.int r, .int r] M2
      refine sg_law_235 M2 (nI i) r r (fun _ => back M2 c0' hI2 hs2) (fun c => absurd rfl c)
    · have c0' : ¬ (nI L - 5) < nI i := by rw [← hM]; exact c0
      refine a_lays _ _ _ j M (by omega) hI _ (fun r M1 hs1 hM1 => ?_)
      show WX mi_law 27 Q 259 [some (.ref 104), some (.ref 0), some (.ref 37), some (.int (nI i))] [.int r] M1
      have hM1' : M1.1 105 0 = nI L := by rw [hs1.2]; exact hM
      refine sg_law_259 M1 (nI i) r (by have h := bnd_of (k := 1) hL c0' hi (by decide); rw [← hM1'] at h; exact h) (by have h := bnd_of (k := 2) hL c0' hi (by decide); rw [← hM1'] at h; exact h) (by have h := bnd_of (k := 3) hL c0' hi (by decide); rw [← hM1'] at h; exact h) ?_
      rw [hs1.1]
      refine hM1 _ (fun M2 hI2 hs2 => ?_)
      show WX mi_law 27 Q 278 [some (.ref 104), some (.ref 0), some (.ref 37), some (.int (nI i))] [.int r, .int r] M2
      refine sg_law_278 M2 (nI i) r r (fun _ => back M2 c0' hI2 hs2) (fun c => absurd rfl c)
    · have c0' : ¬ (nI L - 5) < nI i := by rw [← hM]; exact c0
      refine a_lifts _ _ j M (by omega) hI _ (fun r M1 hs1 hM1 => ?_)
      show WX mi_law 27 Q 297 [some (.ref 104), some (.ref 0), some (.ref 37), some (.int (nI i))] [.int r] M1
      have hM1' : M1.1 105 0 = nI L := by rw [hs1.2]; exact hM
      refine sg_law_297 M1 (nI i) r (by have h := bnd_of (k := 1) hL c0' hi (by decide); rw [← hM1'] at h; exact h) (by have h := bnd_of (k := 2) hL c0' hi (by decide); rw [← hM1'] at h; exact h) ?_
      rw [hs1.1]
      refine hM1 _ (fun M2 hI2 hs2 => ?_)
      show WX mi_law 27 Q 311 [some (.ref 104), some (.ref 0), some (.ref 37), some (.int (nI i))] [.int r, .int r] M2
      refine sg_law_311 M2 (nI i) r r (fun _ => back M2 c0' hI2 hs2) (fun c => absurd rfl c)
    · have c0' : ¬ (nI L - 5) < nI i := by rw [← hM]; exact c0
      refine a_raises _ _ _ j M (by omega) hI _ (fun r M1 hs1 hM1 => ?_)
      show WX mi_law 27 Q 335 [some (.ref 104), some (.ref 0), some (.ref 37), some (.int (nI i))] [.int r] M1
      have hM1' : M1.1 105 0 = nI L := by rw [hs1.2]; exact hM
      refine sg_law_335 M1 (nI i) r (by have h := bnd_of (k := 1) hL c0' hi (by decide); rw [← hM1'] at h; exact h) (by have h := bnd_of (k := 2) hL c0' hi (by decide); rw [← hM1'] at h; exact h) (by have h := bnd_of (k := 3) hL c0' hi (by decide); rw [← hM1'] at h; exact h) ?_
      rw [hs1.1]
      refine hM1 _ (fun M2 hI2 hs2 => ?_)
      show WX mi_law 27 Q 354 [some (.ref 104), some (.ref 0), some (.ref 37), some (.int (nI i))] [.int r, .int r] M2
      refine sg_law_354 M2 (nI i) r r (fun _ => back M2 c0' hI2 hs2) (fun c => absurd rfl c)
    · have c0' : ¬ (nI L - 5) < nI i := by rw [← hM]; exact c0
      refine a_day  j M (by omega) hI _ (fun r M1 hs1 hM1 => ?_)
      show WX mi_law 27 Q 363 [some (.ref 104), some (.ref 0), some (.ref 37), some (.int (nI i))] [.int r] M1
      have hM1' : M1.1 105 0 = nI L := by rw [hs1.2]; exact hM
      refine sg_law_363 M1 (nI i) r ?_
      skip
      refine hM1 _ (fun M2 hI2 hs2 => ?_)
      show WX mi_law 27 Q 367 [some (.ref 104), some (.ref 0), some (.ref 37), some (.int (nI i))] [.int r, .int r] M2
      refine sg_law_367 M2 (nI i) r r (fun _ => back M2 c0' hI2 hs2) (fun c => absurd rfl c)
    · have c0' : ¬ (nI L - 5) < nI i := by rw [← hM]; exact c0
      refine a_undo  j M (by omega) hI _ (fun r M1 hs1 hM1 => ?_)
      show WX mi_law 27 Q 376 [some (.ref 104), some (.ref 0), some (.ref 37), some (.int (nI i))] [.int r] M1
      have hM1' : M1.1 105 0 = nI L := by rw [hs1.2]; exact hM
      refine sg_law_376 M1 (nI i) r ?_
      skip
      refine hM1 _ (fun M2 hI2 hs2 => ?_)
      show WX mi_law 27 Q 380 [some (.ref 104), some (.ref 0), some (.ref 37), some (.int (nI i))] [.int r, .int r] M2
      refine sg_law_380 M2 (nI i) r r (fun _ => back M2 c0' hI2 hs2) (fun c => absurd rfl c)
    · have c0' : ¬ (nI L - 5) < nI i := by rw [← hM]; exact c0
      refine a_now _ j M (by omega) hI _ (fun r M1 hs1 hM1 => ?_)
      show WX mi_law 27 Q 394 [some (.ref 104), some (.ref 0), some (.ref 37), some (.int (nI i))] [.int r] M1
      have hM1' : M1.1 105 0 = nI L := by rw [hs1.2]; exact hM
      refine sg_law_394 M1 (nI i) r (by have h := bnd_of (k := 1) hL c0' hi (by decide); rw [← hM1'] at h; exact h) ?_
      rw [hs1.1]
      refine hM1 _ (fun M2 hI2 hs2 => ?_)
      show WX mi_law 27 Q 403 [some (.ref 104), some (.ref 0), some (.ref 37), some (.int (nI i))] [.int r, .int r] M2
      refine sg_law_403 M2 (nI i) r r (fun _ => back M2 c0' hI2 hs2) (fun c => absurd rfl c)
    · have c0' : ¬ (nI L - 5) < nI i := by rw [← hM]; exact c0
      refine a_stock _ j M (by omega) hI _ (fun r M1 hs1 hM1 => ?_)
      show WX mi_law 27 Q 417 [some (.ref 104), some (.ref 0), some (.ref 37), some (.int (nI i))] [.int r] M1
      have hM1' : M1.1 105 0 = nI L := by rw [hs1.2]; exact hM
      refine sg_law_417 M1 (nI i) r (by have h := bnd_of (k := 1) hL c0' hi (by decide); rw [← hM1'] at h; exact h) ?_
      rw [hs1.1]
      refine hM1 _ (fun M2 hI2 hs2 => ?_)
      show WX mi_law 27 Q 426 [some (.ref 104), some (.ref 0), some (.ref 37), some (.int (nI i))] [.int r, .int r] M2
      refine sg_law_426 M2 (nI i) r r (fun _ => back M2 c0' hI2 hs2) (fun c => absurd rfl c)
    · have c0' : ¬ (nI L - 5) < nI i := by rw [← hM]; exact c0
      refine a_drop _ _ _ j M (by omega) hI _ (fun r M1 hs1 hM1 => ?_)
      show WX mi_law 27 Q 450 [some (.ref 104), some (.ref 0), some (.ref 37), some (.int (nI i))] [.int r] M1
      have hM1' : M1.1 105 0 = nI L := by rw [hs1.2]; exact hM
      refine sg_law_450 M1 (nI i) r (by have h := bnd_of (k := 1) hL c0' hi (by decide); rw [← hM1'] at h; exact h) (by have h := bnd_of (k := 2) hL c0' hi (by decide); rw [← hM1'] at h; exact h) (by have h := bnd_of (k := 3) hL c0' hi (by decide); rw [← hM1'] at h; exact h) ?_
      rw [hs1.1]
      refine hM1 _ (fun M2 hI2 hs2 => ?_)
      show WX mi_law 27 Q 469 [some (.ref 104), some (.ref 0), some (.ref 37), some (.int (nI i))] [.int r, .int r] M2
      refine sg_law_469 M2 (nI i) r r (fun _ => back M2 c0' hI2 hs2) (fun c => absurd rfl c)
    · have c0' : ¬ (nI L - 5) < nI i := by rw [← hM]; exact c0
      refine a_feeds _ _ j M (by omega) hI _ (fun r M1 hs1 hM1 => ?_)
      show WX mi_law 27 Q 488 [some (.ref 104), some (.ref 0), some (.ref 37), some (.int (nI i))] [.int r] M1
      have hM1' : M1.1 105 0 = nI L := by rw [hs1.2]; exact hM
      refine sg_law_488 M1 (nI i) r (by have h := bnd_of (k := 1) hL c0' hi (by decide); rw [← hM1'] at h; exact h) (by have h := bnd_of (k := 2) hL c0' hi (by decide); rw [← hM1'] at h; exact h) ?_
      rw [hs1.1]
      refine hM1 _ (fun M2 hI2 hs2 => ?_)
      show WX mi_law 27 Q 502 [some (.ref 104), some (.ref 0), some (.ref 37), some (.int (nI i))] [.int r, .int r] M2
      refine sg_law_502 M2 (nI i) r r (fun _ => back M2 c0' hI2 hs2) (fun c => absurd rfl c)
    · have c0' : ¬ (nI L - 5) < nI i := by rw [← hM]; exact c0
      refine a_mend _ j M (by omega) hI _ (fun r M1 hs1 hM1 => ?_)
      show WX mi_law 27 Q 516 [some (.ref 104), some (.ref 0), some (.ref 37), some (.int (nI i))] [.int r] M1
      have hM1' : M1.1 105 0 = nI L := by rw [hs1.2]; exact hM
      refine sg_law_516 M1 (nI i) r (by have h := bnd_of (k := 1) hL c0' hi (by decide); rw [← hM1'] at h; exact h) ?_
      rw [hs1.1]
      refine hM1 _ (fun M2 hI2 hs2 => ?_)
      show WX mi_law 27 Q 525 [some (.ref 104), some (.ref 0), some (.ref 37), some (.int (nI i))] [.int r, .int r] M2
      refine sg_law_525 M2 (nI i) r r (fun _ => back M2 c0' hI2 hs2) (fun c => absurd rfl c)
    · have c0' : ¬ (nI L - 5) < nI i := by rw [← hM]; exact c0
      refine a_plan _ j M (by omega) hI _ (fun r M1 hs1 hM1 => ?_)
      show WX mi_law 27 Q 539 [some (.ref 104), some (.ref 0), some (.ref 37), some (.int (nI i))] [.int r] M1
      have hM1' : M1.1 105 0 = nI L := by rw [hs1.2]; exact hM
      refine sg_law_539 M1 (nI i) r (by have h := bnd_of (k := 1) hL c0' hi (by decide); rw [← hM1'] at h; exact h) ?_
      rw [hs1.1]
      refine hM1 _ (fun M2 hI2 hs2 => ?_)
      show WX mi_law 27 Q 548 [some (.ref 104), some (.ref 0), some (.ref 37), some (.int (nI i))] [.int r, .int r] M2
      refine sg_law_548 M2 (nI i) r r (fun _ => back M2 c0' hI2 hs2) (fun c => absurd rfl c)
    · have c0' : ¬ (nI L - 5) < nI i := by rw [← hM]; exact c0
      refine a_barrow _ _ j M (by omega) hI _ (fun r M1 hs1 hM1 => ?_)
      show WX mi_law 27 Q 567 [some (.ref 104), some (.ref 0), some (.ref 37), some (.int (nI i))] [.int r] M1
      have hM1' : M1.1 105 0 = nI L := by rw [hs1.2]; exact hM
      refine sg_law_567 M1 (nI i) r (by have h := bnd_of (k := 1) hL c0' hi (by decide); rw [← hM1'] at h; exact h) (by have h := bnd_of (k := 2) hL c0' hi (by decide); rw [← hM1'] at h; exact h) ?_
      rw [hs1.1]
      refine hM1 _ (fun M2 hI2 hs2 => ?_)
      show WX mi_law 27 Q 581 [some (.ref 104), some (.ref 0), some (.ref 37), some (.int (nI i))] [.int r, .int r] M2
      refine sg_law_581 M2 (nI i) r r (fun _ => back M2 c0' hI2 hs2) (fun c => absurd rfl c)
    · have c0' : ¬ (nI L - 5) < nI i := by rw [← hM]; exact c0
      refine a_odds _ _ _ _ j M (by omega) hI _ (fun r M1 hs1 hM1 => ?_)
      show WX mi_law 27 Q 610 [some (.ref 104), some (.ref 0), some (.ref 37), some (.int (nI i))] [.int r] M1
      have hM1' : M1.1 105 0 = nI L := by rw [hs1.2]; exact hM
      refine sg_law_610 M1 (nI i) r (by have h := bnd_of (k := 1) hL c0' hi (by decide); rw [← hM1'] at h; exact h) (by have h := bnd_of (k := 2) hL c0' hi (by decide); rw [← hM1'] at h; exact h) (by have h := bnd_of (k := 3) hL c0' hi (by decide); rw [← hM1'] at h; exact h) (by have h := bnd_of (k := 4) hL c0' hi (by decide); rw [← hM1'] at h; exact h) ?_
      rw [hs1.1]
      refine hM1 _ (fun M2 hI2 hs2 => ?_)
      show WX mi_law 27 Q 634 [some (.ref 104), some (.ref 0), some (.ref 37), some (.int (nI i))] [.int r, .int r] M2
      refine sg_law_634 M2 (nI i) r r (fun _ => back M2 c0' hI2 hs2) (fun c => absurd rfl c)
    · have c0' : ¬ (nI L - 5) < nI i := by rw [← hM]; exact c0
      refine a_saw _ _ j M (by omega) hI _ (fun r M1 hs1 hM1 => ?_)
      show WX mi_law 27 Q 653 [some (.ref 104), some (.ref 0), some (.ref 37), some (.int (nI i))] [.int r] M1
      have hM1' : M1.1 105 0 = nI L := by rw [hs1.2]; exact hM
      refine sg_law_653 M1 (nI i) r (by have h := bnd_of (k := 1) hL c0' hi (by decide); rw [← hM1'] at h; exact h) (by have h := bnd_of (k := 2) hL c0' hi (by decide); rw [← hM1'] at h; exact h) ?_
      rw [hs1.1]
      refine hM1 _ (fun M2 hI2 hs2 => ?_)
      show WX mi_law 27 Q 667 [some (.ref 104), some (.ref 0), some (.ref 37), some (.int (nI i))] [.int r, .int r] M2
      refine sg_law_667 M2 (nI i) r r (fun _ => back M2 c0' hI2 hs2) (fun c => absurd rfl c)
    · have c0' : ¬ (nI L - 5) < nI i := by rw [← hM]; exact c0
      refine a_forget  j M (by omega) hI _ (fun r M1 hs1 hM1 => ?_)
      show WX mi_law 27 Q 676 [some (.ref 104), some (.ref 0), some (.ref 37), some (.int (nI i))] [.int r] M1
      have hM1' : M1.1 105 0 = nI L := by rw [hs1.2]; exact hM
      refine sg_law_676 M1 (nI i) r ?_
      skip
      refine hM1 _ (fun M2 hI2 hs2 => ?_)
      show WX mi_law 27 Q 680 [some (.ref 104), some (.ref 0), some (.ref 37), some (.int (nI i))] [.int r, .int r] M2
      refine sg_law_680 M2 (nI i) r r (fun _ => back M2 c0' hI2 hs2) (fun c => absurd rfl c)
    · have c0' : ¬ (nI L - 5) < nI i := by rw [← hM]; exact c0
      refine a_from  j M (by omega) hI _ (fun r M1 hs1 hM1 => ?_)
      show WX mi_law 27 Q 689 [some (.ref 104), some (.ref 0), some (.ref 37), some (.int (nI i))] [.int r] M1
      have hM1' : M1.1 105 0 = nI L := by rw [hs1.2]; exact hM
      refine sg_law_689 M1 (nI i) r ?_
      skip
      refine hM1 _ (fun M2 hI2 hs2 => ?_)
      show WX mi_law 27 Q 693 [some (.ref 104), some (.ref 0), some (.ref 37), some (.int (nI i))] [.int r, .int r] M2
      refine sg_law_693 M2 (nI i) r r (fun _ => back M2 c0' hI2 hs2) (fun c => absurd rfl c)
    · have c0' : ¬ (nI L - 5) < nI i := by rw [← hM]; exact c0
      refine a_mark _ _ _ j M (by omega) hI _ (fun r M1 hs1 hM1 => ?_)
      show WX mi_law 27 Q 717 [some (.ref 104), some (.ref 0), some (.ref 37), some (.int (nI i))] [.int r] M1
      have hM1' : M1.1 105 0 = nI L := by rw [hs1.2]; exact hM
      refine sg_law_717 M1 (nI i) r (by have h := bnd_of (k := 1) hL c0' hi (by decide); rw [← hM1'] at h; exact h) (by have h := bnd_of (k := 2) hL c0' hi (by decide); rw [← hM1'] at h; exact h) (by have h := bnd_of (k := 3) hL c0' hi (by decide); rw [← hM1'] at h; exact h) ?_
      rw [hs1.1]
      refine hM1 _ (fun M2 hI2 hs2 => ?_)
      show WX mi_law 27 Q 736 [some (.ref 104), some (.ref 0), some (.ref 37), some (.int (nI i))] [.int r, .int r] M2
      refine sg_law_736 M2 (nI i) r r (fun _ => back M2 c0' hI2 hs2) (fun c => absurd rfl c)
    · have c0' : ¬ (nI L - 5) < nI i := by rw [← hM]; exact c0
      refine a_keep _ j M (by omega) hI _ (fun r M1 hs1 hM1 => ?_)
      show WX mi_law 27 Q 750 [some (.ref 104), some (.ref 0), some (.ref 37), some (.int (nI i))] [.int r] M1
      have hM1' : M1.1 105 0 = nI L := by rw [hs1.2]; exact hM
      refine sg_law_750 M1 (nI i) r (by have h := bnd_of (k := 1) hL c0' hi (by decide); rw [← hM1'] at h; exact h) ?_
      rw [hs1.1]
      refine hM1 _ (fun M2 hI2 hs2 => ?_)
      show WX mi_law 27 Q 759 [some (.ref 104), some (.ref 0), some (.ref 37), some (.int (nI i))] [.int r, .int r] M2
      refine sg_law_759 M2 (nI i) r r (fun _ => back M2 c0' hI2 hs2) (fun c => absurd rfl c)
    · have c0' : ¬ (nI L - 5) < nI i := by rw [← hM]; exact c0
      refine a_back _ j M (by omega) hI _ (fun r M1 hs1 hM1 => ?_)
      show WX mi_law 27 Q 773 [some (.ref 104), some (.ref 0), some (.ref 37), some (.int (nI i))] [.int r] M1
      have hM1' : M1.1 105 0 = nI L := by rw [hs1.2]; exact hM
      refine sg_law_773 M1 (nI i) r (by have h := bnd_of (k := 1) hL c0' hi (by decide); rw [← hM1'] at h; exact h) ?_
      rw [hs1.1]
      refine hM1 _ (fun M2 hI2 hs2 => ?_)
      show WX mi_law 27 Q 782 [some (.ref 104), some (.ref 0), some (.ref 37), some (.int (nI i))] [.int r, .int r] M2
      refine sg_law_782 M2 (nI i) r r (fun _ => back M2 c0' hI2 hs2) (fun c => absurd rfl c)
    · have c0' : ¬ (nI L - 5) < nI i := by rw [← hM]; exact c0
      refine a_count _ j M (by omega) hI _ (fun r M1 hs1 hM1 => ?_)
      show WX mi_law 27 Q 796 [some (.ref 104), some (.ref 0), some (.ref 37), some (.int (nI i))] [.int r] M1
      have hM1' : M1.1 105 0 = nI L := by rw [hs1.2]; exact hM
      refine sg_law_796 M1 (nI i) r (by have h := bnd_of (k := 1) hL c0' hi (by decide); rw [← hM1'] at h; exact h) ?_
      rw [hs1.1]
      refine hM1 _ (fun M2 hI2 hs2 => ?_)
      show WX mi_law 27 Q 805 [some (.ref 104), some (.ref 0), some (.ref 37), some (.int (nI i))] [.int r, .int r] M2
      refine sg_law_805 M2 (nI i) r r (fun _ => back M2 c0' hI2 hs2) (fun c => absurd rfl c)
    · have c0' : ¬ (nI L - 5) < nI i := by rw [← hM]; exact c0
      refine a_trace  j M (by omega) hI _ (fun r M1 hs1 hM1 => ?_)
      show WX mi_law 27 Q 814 [some (.ref 104), some (.ref 0), some (.ref 37), some (.int (nI i))] [.long r] M1
      have hM1' : M1.1 105 0 = nI L := by rw [hs1.2]; exact hM
      refine sg_law_814 M1 (nI i) r ?_
      skip
      refine hM1 _ (fun M2 hI2 hs2 => ?_)
      show WX mi_law 27 Q 818 [some (.ref 104), some (.ref 0), some (.ref 37), some (.int (nI i))] [.long r, .long r] M2
      refine sg_law_818 M2 (nI i) r r (fun _ => back M2 c0' hI2 hs2) (fun c => absurd (by simp [lg_cmp]) c)
    · exact back M (by rw [← hM]; exact c0) (hup j M hI) ⟨rfl, rfl⟩
