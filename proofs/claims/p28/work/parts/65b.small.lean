/-! ===== count, stock, type, forget, trace ===== -/
/-- what count() tells -/
def cntV (s : Sg) (x : Int32) : Int32 := (if x = 0 then nI (pW s.2.1) else (if x = 1 then nI (pR s.2.1) else (if x = 2 then nI (pO s.2.1) else (if x = 3 then nI s.2.2.2.2.1.length else (if x = 4 then nI s.2.2.1.2.length else (if x = 5 then nI s.1.length else (-1)))))))
theorem count_z {s : Sg} {M : Mem} (hc : RC s M) (x : Int32) : z_C_count_0 M x = cntV s x := by
  unfold z_C_count_0 cntV
  rw [hc.2.1.1, hc.2.1.2.1, hc.2.1.2.2.1, hc.2.2.2.2.1.2, hc.2.2.1.2.2.2.2.2.1, hc.1.1]
theorem k_count (s : Sg) (x : Int32) : K1 mi_C_count 1 [.int x] s (.int (cntV s x)) := by
  intro M Q hc hQ
  refine wx_C_count_0 M x ?_
  rw [count_z hc]
  exact hQ M (fun _ _ _ => rfl) (fun _ _ => rfl) rfl
/-- what stock() tells -/
def stkV (s : Sg) (x : Int32) : Int32 := if z_C_isSize x = 0 then -1 else nI (gSt s.2.2.1.1 x.toNatClampNeg)
theorem size_lt {x : Int32} (h : ¬ z_C_isSize x = 0) : x.toNatClampNeg < 4 ∧ vp_in x 4 := by
  unfold z_C_isSize at h
  by_cases h0 : x < 0
  · rw [if_pos h0] at h; exact absurd rfl h
  · by_cases h1 : 4 ≤ x
    · rw [if_neg h0, if_pos h1] at h; exact absurd rfl h
    · have h2 : x.toNatClampNeg < 4 := by
        rw [Int32.le_iff_toInt_le, show (4 : Int32).toInt = 4 from rfl] at h1
        show x.toInt.toNat < 4
        omega
      refine ⟨h2, fun q => ?_⟩
      rcases q with q | q
      · exact h0 q
      · omega
theorem stock_z {s : Sg} {M : Mem} (hc : RC s M) (x : Int32) : z_C_stock_0 M x = stkV s x := by
  unfold z_C_stock_0 stkV
  by_cases h : z_C_isSize x = 0
  · rw [if_pos h, if_pos h]
  · rw [if_neg h, if_neg h]
    exact hc.2.2.1.2.2.1 _ (size_lt h).1
theorem k_stock (s : Sg) (x : Int32) : K1 mi_C_stock 2 [.int x] s (.int (stkV s x)) := by
  intro M Q hc hQ
  refine wx_C_stock_0 M x (fun c => (size_lt c).2) ?_
  rw [stock_z hc]
  exact hQ M (fun _ _ _ => rfl) (fun _ _ => rfl) rfl
theorem k_trace (s : Sg) : K1 mi_C_trace 1 [] s (.long s.2.2.2.2.2) := by
  intro M Q hc hQ
  refine sg_C_trace_0_0 M ?_
  rw [hc.2.2.2.2.2]
  exact hQ M (fun _ _ _ => rfl) (fun _ _ => rfl) rfl
theorem k_typeK {t : List Nat} {p : Pl} {gh : Gh} {im : Option Gh × Option Gh} {sn : List Nat} {tr : Int64} {c : Nat} (hcc : c < 256) (hlt : t.length < 150) :
    K0 mi_C_type 2 [.int (nI c)] (t, p, gh, im, sn, tr) (.int (nI (t.length + 1))) (t ++ [c], p, gh, im, sn, tr) := by
  intro M Q hc hQ
  have hx : (0 : Int32) ≤ nI c ∧ nI c ≤ 255 := by
    have : ∀ c, c < 256 → (0 : Int32) ≤ nI c ∧ nI c ≤ 255 := by decide +kernel
    exact this c hcc
  refine sg_C_type_0_0 M (nI c) (fun q => absurd q (Int32.not_lt.mpr hx.1)) (fun _ _ => ?_) (fun _ q => absurd hx.2 q)
  have hl : M.1 1 1 < 150 := by rw [hc.1.1]; exact nI_lt (b := 150) hlt (by decide)
  refine sg_R_take_1_0 M (nI c) (fun _ => by rw [hc.1.1]; exact vp_in_nI hlt (by decide)) (fun _ => ?_) (fun q => absurd hl q)
  refine sg_C_type_0_21 _ (nI c) 1 (fun q => absurd q (by decide)) (fun _ => ?_)
  have e1 : (M.1 1 1 + 1) = nI (t.length + 1) := by rw [hc.1.1, nI_1]
  have e2 : (M.1 1 1).toNatClampNeg = t.length := by rw [hc.1.1]; exact nI_clamp (n := t.length) (by omega)
  rw [e1, e2]
  have e3 : (wr (wr M 2 t.length (nI c)) 1 1 (nI (t.length + 1))).1 1 1 = nI (t.length + 1) := by simp [wr]
  rw [e3]
  refine hQ _ ?_ (((FrC.refl M).wr (by decide)).wr (by decide))
  obtain ⟨h1, h2, h3, h4, h5, h6⟩ := hc
  refine ⟨⟨by rw [e3, List.length_append]; rfl, fun j d hd => ?_⟩, ?_, ?_, ?_, ?_, h6⟩
  · rcases getElem?_snoc hd with ⟨hj, h⟩ | ⟨rfl, rfl⟩
    · have := h1.2 j d h
      simp [wr, show j ≠ t.length by omega, this]
    · simp [wr]
  · simpa [RCp, wr] using h2
  · simpa [RCg, wr] using h3
  · simpa [RCi, RCg, wr] using h4
  · simpa [RCs, wr] using h5
theorem k_forget {B : Nat} {t : List Nat} {p : Pl} {gh : Gh} {im : Option Gh × Option Gh} {sn : List Nat} {tr : Int64} (hw : WfS B (t, p, gh, im, sn, tr)) :
    WfS B (t, p, gh, im, [], tr) ∧ K0 mi_C_forget 1 [] (t, p, gh, im, sn, tr) (.int (nI sn.length)) (t, p, gh, im, [], tr) := by
  refine ⟨⟨hw.1, hw.2.1, hw.2.2.1, hw.2.2.2.1, hw.2.2.2.2.1, Nat.zero_le _, fun _ h => absurd h List.not_mem_nil⟩, fun M Q hc hQ => ?_⟩
  refine sg_C_forget_0_0 M ?_
  rw [hc.2.2.2.2.1.2]
  refine hQ _ ?_ (((FrC.refl M).wr (by decide)).wr (by decide))
  obtain ⟨h1, h2, h3, h4, h5, h6⟩ := hc
  refine ⟨?_, ?_, ?_, ?_, ⟨?_, ?_⟩, h6⟩
  · simpa [RCt, wr] using h1
  · simpa [RCp, wr] using h2
  · simpa [RCg, wr] using h3
  · simpa [RCi, RCg, wr] using h4
  · simp [wr, sI_none]
  · simp [wr, nI_0]
