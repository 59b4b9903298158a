/-! ===== plan: the class's search; printed by wip/gen/p53.py ===== -/
theorem sg_P_search_69d {Q : Option Value → Mem → Prop} (M : Mem) (x3 x4 x5 x6 : Int32)
    (h1 : 16 ≤ x6 → ¬ (z_C_crossPoints x3 x4 x5) = 0 → ¬ (M.1 33 5) = 99 → Q none (wr M 33 0 (M.1 33 5)))
    (h2 : 16 ≤ x6 → ¬ (z_C_crossPoints x3 x4 x5) = 0 → (M.1 33 5) = 99 → Q none (wr M 33 0 (-9)))
    (h3 : 16 ≤ x6 → (z_C_crossPoints x3 x4 x5) = 0 → WX mi_P_layRest 20 (fun rv M' => WX mi_P_search 25 Q 121 [some (.ref 33), some (.ref 6), some (.ref 9), some (.int x3), some (.int x4), some (.int x5), some (.int x6)] (rv.toList ++ []) M') 0 [some (.ref 33), some (.int 0), some (.int x3), some (.int x4), some (.int x5), none, none, none, none, none, none] [] M)
    (b4 : ¬ 16 ≤ x6 → vp_in x6 16)
    (h5 : ¬ 16 ≤ x6 → WX mi_P_search 25 Q 69 [some (.ref 33), some (.ref 6), some (.ref 9), some (.int x3), some (.int x4), some (.int x5), some (.int (x6 + 1))] [] (wr (wr M 34 x6.toNatClampNeg (-9)) 35 x6.toNatClampNeg (-9))) :
    WX mi_P_search 25 Q 69 [some (.ref 33), some (.ref 6), some (.ref 9), some (.int x3), some (.int x4), some (.int x5), some (.int x6)] [] M := by
  refine WX.run (pc' := 73) (L' := [some (.ref 33), some (.ref 6), some (.ref 9), some (.int x3), some (.int x4), some (.int x5), some (.int x6)]) (st' := [.int 16, .int x6]) (M' := M) (P := True) 2 rfl trivial ?_
  refine WX.icmp_ge (off := 27) (tgt := 100) rfl rfl (fun c1 => ?_) (fun c1 => ?_)
  · refine WX.run (pc' := 105) (L' := [some (.ref 33), some (.ref 6), some (.ref 9), some (.int x3), some (.int x4), some (.int x5), some (.int x6)]) (st' := [.int x5, .int x4, .int x3]) (M' := M) (P := True) 3 rfl trivial ?_
    refine WX.callSN (ca := mi_C_crossPoints) (n := 3) (d' := 1) (st := []) (As := [.int x3, .int x4, .int x5]) rfl lk_2_54 ck_C_crossPoints cs_C_crossPoints rfl (by decide) rfl (Nat.le_of_ble_eq_true rfl) (by intro w hw; simp only [List.mem_cons, List.not_mem_nil, or_false] at hw; rcases hw with rfl | rfl | rfl <;> rfl) (Nat.le_of_ble_eq_true rfl) ?_
    refine wx_C_crossPoints M x3 x4 x5 ?_
    show WX mi_P_search 25 Q 108 [some (.ref 33), some (.ref 6), some (.ref 9), some (.int x3), some (.int x4), some (.int x5), some (.int x6)] [.int (z_C_crossPoints x3 x4 x5)] M
    refine WX.if_ne (off := 13) (tgt := 121) rfl rfl (fun c2 => ?_) (fun c2 => ?_)
    · refine WX.run (pc' := 128) (L' := [some (.ref 33), some (.ref 6), some (.ref 9), some (.int x3), some (.int x4), some (.int x5), some (.int x6)]) (st' := [.int 99, .int (M.1 33 5), .ref 33]) (M' := M) (P := True) 4 rfl trivial ?_
      refine WX.icmp_ne (off := 8) (tgt := 136) rfl rfl (fun c3 => ?_) (fun c3 => ?_)
      · refine WX.run (pc' := 143) (L' := [some (.ref 33), some (.ref 6), some (.ref 9), some (.int x3), some (.int x4), some (.int x5), some (.int x6)]) (st' := []) (M' := (wr M 33 0 (M.1 33 5))) (P := True) 3 rfl trivial ?_
        exact WX.vret rfl rfl (h1 c1 c2 c3)
      · refine WX.run (pc' := 143) (L' := [some (.ref 33), some (.ref 6), some (.ref 9), some (.int x3), some (.int x4), some (.int x5), some (.int x6)]) (st' := []) (M' := (wr M 33 0 (-9))) (P := True) 3 rfl trivial ?_
        exact WX.vret rfl rfl (h2 c1 c2 c3)
    · refine WX.run (pc' := 118) (L' := [some (.ref 33), some (.ref 6), some (.ref 9), some (.int x3), some (.int x4), some (.int x5), some (.int x6)]) (st' := [.int x5, .int x4, .int x3, .int 0, .ref 33]) (M' := M) (P := True) 5 rfl trivial ?_
      refine WX.callS (ca := mi_P_layRest) (n := 5) (d' := 20) (st := []) (As := [.ref 33, .int 0, .int x3, .int x4, .int x5]) rfl lk_2_58 ck_P_layRest cs_P_layRest rfl (by decide) rfl (Nat.le_of_ble_eq_true rfl) (by intro w hw; simp only [List.mem_cons, List.not_mem_nil, or_false] at hw; rcases hw with rfl | rfl | rfl | rfl | rfl <;> rfl) (Nat.le_of_ble_eq_true rfl) ?_
      exact (h3 c1 c2)
  · refine WX.run (pc' := 69) (L' := [some (.ref 33), some (.ref 6), some (.ref 9), some (.int x3), some (.int x4), some (.int x5), some (.int (x6 + 1))]) (st' := []) (M' := (wr (wr M 34 x6.toNatClampNeg (-9)) 35 x6.toNatClampNeg (-9))) (P := ((True ∧ vp_in x6 16) ∧ vp_in x6 16)) 12 rfl ⟨⟨trivial, (b4 c1)⟩, (b4 c1)⟩ ?_
    exact (h5 c1)
theorem min_if {a b : Nat} (ha : a < 2 ^ 31) (hb : b < 2 ^ 31) : (if nI a < nI b then nI a else nI b) = nI (min b a) := by
  by_cases h : a < b
  · rw [if_pos ((nI_lt_iff ha hb).mpr h), show min b a = a by omega]
  · rw [if_neg (fun q => h ((nI_lt_iff ha hb).mp q)), show min b a = b by omega]
theorem leastFor_n {M : Mem} {s0 s1 s2 s3 c : Nat} (h0 : M.1 36 0 = nI s0) (h1 : M.1 36 1 = nI s1) (h2 : M.1 36 2 = nI s2) (h3 : M.1 36 3 = nI s3) (b0 : s0 ≤ 10000) (b1 : s1 ≤ 10000) (b2 : s2 ≤ 10000) (b3 : s3 ≤ 10000) (hc : c ≤ 16) : z_P_leastFor_33 M (nI c) = nI (lstN s0 s1 s2 s3 c) := by
  unfold z_P_leastFor_33
  have e4 : nI c / 4 = nI (c / 4) := nI_div (b := 4) (by omega) (by decide)
  have eA : (if nI c / 4 < M.1 36 0 then nI c / 4 else M.1 36 0) = nI (min s0 (c / 4)) := by rw [h0, e4]; exact min_if (by omega) (by omega)
  have eR : nI c - 4 * nI (min s0 (c / 4)) = nI (c - 4 * min s0 (c / 4)) := by rw [show (4 : Int32) = nI 4 from rfl, nI_mul]; exact nI_subn (by omega) (by omega)
  have e2 : nI (c - 4 * min s0 (c / 4)) / 2 = nI ((c - 4 * min s0 (c / 4)) / 2) := nI_div (b := 2) (by omega) (by decide)
  have eB : (if nI (c - 4 * min s0 (c / 4)) / 2 < M.1 36 1 + M.1 36 2 then nI (c - 4 * min s0 (c / 4)) / 2 else M.1 36 1 + M.1 36 2) = nI (min (s1 + s2) ((c - 4 * min s0 (c / 4)) / 2)) := by rw [h1, h2, e2, nI_add]; exact min_if (by omega) (by omega)
  have eT : nI (c - 4 * min s0 (c / 4)) - 2 * nI (min (s1 + s2) ((c - 4 * min s0 (c / 4)) / 2)) = nI ((c - 4 * min s0 (c / 4)) - 2 * min (s1 + s2) ((c - 4 * min s0 (c / 4)) / 2)) := by rw [show (2 : Int32) = nI 2 from rfl, nI_mul]; exact nI_subn (by omega) (by omega)
  rw [eA, eR, eB, eT, h3, nI_add, nI_add]
  unfold lstN
  by_cases q : s3 < (c - 4 * min s0 (c / 4)) - 2 * min (s1 + s2) ((c - 4 * min s0 (c / 4)) / 2)
  · rw [if_pos q, if_neg (fun z => by have := (nI_le_iff (by omega) (by omega)).mp z; omega)]
    rfl
  · rw [if_neg q, if_pos ((nI_le_iff (by omega) (by omega)).mpr (by omega))]
def RP (p : Pl) (g : Gd) (T : Nat → Option Nat) (a : Acc) (M : Mem) : Prop := (∀ z, z < 4 → M.1 36 z = nI (gSt g z)) ∧ (∀ k, k < 16 → M.1 35 k = eSz (T k)) ∧ M.1 33 5 = nI a.1 ∧ (∀ k, k < 16 → M.1 34 k = eSz (a.2 k)) ∧ M.1 33 4 = sI (layb p)
def FP (M M' : Mem) : Prop := (∀ q, q ≠ 33 → q ≠ 34 → q ≠ 35 → q ≠ 36 → M'.1 q = M.1 q) ∧ M'.2 = M.2
theorem FP.trans {M M1 M2 : Mem} (h : FP M M1) (h' : FP M1 M2) : FP M M2 := ⟨fun q a b c d => by rw [h'.1 q a b c d, h.1 q a b c d], by rw [h'.2, h.2]⟩
theorem FP.wr33 {M M1 : Mem} (h : FP M M1) (k : Nat) (v : Int32) : FP M (wr M1 33 k v) := ⟨fun q a b c d => by rw [wr_ne _ a]; exact h.1 q a b c d, h.2⟩
theorem FP.wr34 {M M1 : Mem} (h : FP M M1) (k : Nat) (v : Int32) : FP M (wr M1 34 k v) := ⟨fun q a b c d => by rw [wr_ne _ b]; exact h.1 q a b c d, h.2⟩
theorem FP.wr35 {M M1 : Mem} (h : FP M M1) (k : Nat) (v : Int32) : FP M (wr M1 35 k v) := ⟨fun q a b c d => by rw [wr_ne _ c]; exact h.1 q a b c d, h.2⟩
theorem FP.wr36 {M M1 : Mem} (h : FP M M1) (k : Nat) (v : Int32) : FP M (wr M1 36 k v) := ⟨fun q a b c d => by rw [wr_ne _ d]; exact h.1 q a b c d, h.2⟩
theorem FP.refl (M : Mem) : FP M M := ⟨fun _ _ _ _ _ => rfl, rfl⟩
theorem wx_settle {p : Pl} {g : Gd} {T : Nat → Option Nat} {n : Nat} {a : Acc} {M : Mem} {Q : Option Value → Mem → Prop} (h : RP p g T a M) (hQ : ∀ M', RP p g T (n, T) M' → FP M M' → Q none M') : WX mi_P_settle 1 Q 0 [some (.ref 33), some (.int (nI n)), none] [] M := by
  obtain ⟨r1, r2, r3, r4, r5⟩ := h
  refine sg_P_settle_33_0 M _ ?_
  have loop : ∀ u, u ≤ 16 → ∀ M1 : Mem, (∀ z, z < 4 → M1.1 36 z = nI (gSt g z)) → (∀ k, k < 16 → M1.1 35 k = eSz (T k)) → M1.1 33 5 = nI n → (∀ k, k < u → M1.1 34 k = eSz (T k)) → M1.1 33 4 = sI (layb p) → FP M M1 → WX mi_P_settle 1 Q 7 [some (.ref 33), some (.int (nI n)), some (.int (nI u))] [] M1 := by
    refine downN 16 (fun M1 e1 e2 e3 e4 e5 e6 => ?_) (fun u hu ih M1 e1 e2 e3 e4 e5 e6 => ?_)
    · exact sg_P_settle_33_7 M1 _ _ (fun _ => hQ M1 ⟨e1, e2, e3, e4, e5⟩ e6) (fun c => absurd ge16 c) (fun c => absurd ge16 c)
    · refine sg_P_settle_33_7 M1 _ _ (fun c => absurd c (lt16 hu)) (fun _ => vp_in_nI hu (by decide)) (fun _ => ?_)
      rw [nI_1, nI_clamp (by omega)]
      refine ih _ (fun z hz => by rw [wr_ne _ (by decide)]; exact e1 z hz) (fun k hk => by rw [wr_ne _ (by decide)]; exact e2 k hk) (by rw [wr_ne _ (by decide)]; exact e3) (fun k hk => ?_) (by rw [wr_ne _ (by decide)]; exact e5) (e6.wr34 _ _)
      rw [upd_row]
      by_cases q : k = u
      · rw [if_pos q, q]; exact e2 u hu
      · rw [if_neg q]; exact e4 k (by omega)
  exact loop 0 (by decide) _ (fun z hz => by rw [wr_ne _ (by decide)]; exact r1 z hz) (fun k hk => by rw [wr_ne _ (by decide)]; exact r2 k hk) (by rw [upd_row, if_pos rfl]) (fun k hk => absurd hk (Nat.not_lt_zero k)) (by rw [upd_row, if_neg (by decide)]; exact r5) ((FP.refl M).wr33 _ _)
theorem free_C {p : Pl} {g : Gd} {T : Nat → Option Nat} {a : Acc} {M : Mem} (h : RP p g T a M) : M.1 33 4 &&& (sI (fun k => (gSl g k).isSome) ^^^ (-1)) = sI (fre p g) := by
  rw [h.2.2.2.2, sI_diff]
  rfl
theorem least_C {B : Nat} {p : Pl} {g : Gd} {T : Nat → Option Nat} {a : Acc} {M : Mem} (hB : B ≤ 10000) (hg : WfG B p g) (h : RP p g T a M) : z_P_leastFor_33 M (z_I_bitCount (sI (fre p g))) = nI (lsG p g) := by
  have hs := hg.2.2.2.2.2
  rw [bitCount_sI]
  exact leastFor_n (h.1 0 (by decide)) (h.1 1 (by decide)) (h.1 2 (by decide)) (h.1 3 (by decide)) (by have := hs 0 (by decide); omega) (by have := hs 1 (by decide); omega) (by have := hs 2 (by decide); omega) (by have := hs 3 (by decide); omega) (frN_le p g)
theorem fre_0 {p : Pl} {g : Gd} : sI (fre p g) = 0 ↔ frN p g = 0 := by
  rw [sI_zero]
  exact (cnt_0 16).symm
theorem bound_C {n l b : Nat} (hn : n ≤ 16) (hl : l ≤ 99) (hb : b ≤ 99) : nI n + nI l < nI b ↔ n + l < b := by
  rw [nI_add]
  exact nI_lt_iff (by omega) (by omega)
theorem wx_layRest {B : Nat} {p : Pl} (hB : B ≤ 10000) : ∀ (f : Nat) (g : Gd) (T : Nat → Option Nat) (n : Nat) (a : Acc) (M : Mem) (Q : Option Value → Mem → Prop), frN p g ≤ f → n + frN p g ≤ 16 → WfG B p g → cntB (crs g) 16 = 0 → (∀ k, fre p g k = true → T k = none) → a.1 ≤ 99 → RP p g T a M → (∀ M', RP p g T (plN p f g T n a) M' → FP M M' → Q none M') →
    WX mi_P_layRest (f + 4) Q 0 [some (.ref 33), some (.int (nI n)), some (.int (sI (fun k => (gSl g k).isSome))), some (.int (sI (jnT 2 g 16))), some (.int (sI (jnT 3 g 16))), none, none, none, none, none, none] [] M := by
  have lf : ∀ (d : Nat) (g : Gd) (T : Nat → Option Nat) (n : Nat) (a : Acc) (M : Mem) (Q : Option Value → Mem → Prop), frN p g = 0 → n ≤ 16 → WfG B p g → cntB (crs g) 16 = 0 → a.1 ≤ 99 → RP p g T a M → (∀ M', RP p g T (leafA g T n a) M' → FP M M' → Q none M') →
      WX mi_P_layRest (d + 3) Q 0 [some (.ref 33), some (.int (nI n)), some (.int (sI (fun k => (gSl g k).isSome))), some (.int (sI (jnT 2 g 16))), some (.int (sI (jnT 3 g 16))), none, none, none, none, none, none] [] M := by
    intro d g T n a M Q hf hn hg hc ha hr hK
    have ls0 : lsG p g = 0 := by unfold lsG; rw [hf, lst_0]
    have eb : nI n + z_P_leastFor_33 M (z_I_bitCount (sI (fre p g))) < M.1 33 5 ↔ n < a.1 := by
      rw [least_C hB hg hr, hr.2.2.1, bound_C hn (by omega) ha, ls0]
      omega
    refine sg_P_layRest_33_0 (d := d) M _ _ _ _ (fun c => ?_) (fun _ c c2 => ?_) (fun _ c c2 => ?_) (fun _ c => ?_)
    · exact absurd c (Int32.not_lt.mpr ((nI_le_iff (b := 16) (by omega) (by decide)).mpr hn))
    · rw [free_C hr] at c2
      exact absurd (fre_0.mpr hf) c2
    · rw [free_C hr] at c ⊢
      rw [eb] at c
      refine wx_settle hr (fun M1 r1 r2 => ?_)
      refine sg_P_layRest_33_45 (d := d) M1 _ _ _ _ _ (hK M1 ?_ r2)
      unfold leafA
      rw [if_pos ⟨c, hc⟩]
      exact r1
    · rw [free_C hr, eb] at c
      refine hK M ?_ (FP.refl M)
      unfold leafA
      rw [if_neg (fun q => c q.1)]
      exact hr
  intro f
  induction f with
  | zero =>
    intro g T n a M Q hf hn hg hc hT ha hr hK
    have h0 : frN p g = 0 := by omega
    refine lf 1 g T n a M Q h0 (by omega) hg hc ha hr (fun M' r1 r2 => hK M' ?_ r2)
    show RP p g T (if frN p g = 0 then leafA g T n a else a) M'
    rw [if_pos h0]
    exact r1
  | succ f ih =>
    intro g T n a M Q hf hn hg hc hT ha hr hK
    by_cases h0 : frN p g = 0
    · refine lf (f + 2) g T n a M Q h0 (by omega) hg hc ha hr (fun M' r1 r2 => hK M' ?_ r2)
      show RP p g T (if frN p g = 0 then leafA g T n a else _) M'
      rw [if_pos h0]
      exact r1
    · have eR : plN p (f + 1) g T n a = kdN (chd p (plN p f) g T n) 4 a := by
        show (if frN p g = 0 then leafA g T n a else kdN (chd p (plN p f) g T n) 4 a) = _
        rw [if_neg h0]
      obtain ⟨hk, hkf, hk0⟩ := frL_of h0
      have hlo : lsG p g ≤ 99 := lst_le (frN_le p g)
      have eb : nI n + z_P_leastFor_33 M (z_I_bitCount (sI (fre p g))) < M.1 33 5 ↔ n + lsG p g < a.1 := by
        rw [least_C hB hg hr, hr.2.2.1, bound_C (by omega) hlo ha]
      have kids : ∀ m z, z + m = 4 → ∀ (a' : Acc) (M' : Mem), a'.1 ≤ 99 → RP p g T a' M' → FP M M' → kdN (chd p (plN p f) g T n) m a' = plN p (f + 1) g T n a →
          WX mi_P_layRest (f + 2 + 3) Q 62 [some (.ref 33), some (.int (nI n)), some (.int (sI (fun k => (gSl g k).isSome))), some (.int (sI (jnT 2 g 16))), some (.int (sI (jnT 3 g 16))), some (.int (sI (fre p g))), some (.int (nI (frL p g))), some (.int (nI z)), none, none, none] [] M' := by
        intro m
        induction m with
        | zero =>
          intro z hz a' M' ha' hr' hf' he
          have g4 : (4 : Int32) ≤ nI z := by rw [show z = 4 by omega]; decide
          have he : a' = plN p (f + 1) g T n a := he
          exact sg_P_layRest_33_62 (d := f + 2) M' _ _ _ _ _ _ _ (fun _ => hK M' (by rw [← he]; exact hr') hf') (fun c => absurd g4 c) (fun c => absurd g4 c) (fun c => absurd g4 c) (fun c => absurd g4 c) (fun c => absurd g4 c) (fun c => absurd g4 c) (fun c => absurd g4 c) (fun c => absurd g4 c) (fun c => absurd g4 c) (fun c => absurd g4 c)
        | succ m ihm =>
          intro z hz a' M' ha' hr' hf' he
          have hz4 : z < 4 := by omega
          have n4 : ¬ (4 : Int32) ≤ nI z := Int32.not_le.mpr (nI_lt (b := 4) hz4 (by decide))
          have ez : (nI z).toNatClampNeg = z := nI_clamp (by omega)
          have ek : (nI (frL p g)).toNatClampNeg = frL p g := nI_clamp (by omega)
          have vz : vp_in (nI z) 4 := vp_in_nI hz4 (by decide)
          have vk : vp_in (nI (frL p g)) 16 := vp_in_nI hk (by decide)
          have es : M'.1 36 (nI z).toNatClampNeg = nI (gSt g z) := by rw [ez]; exact hr'.1 z hz4
          have hsB : gSt g z ≤ B := hg.2.2.2.2.2 z hz4
          have he : kdN (chd p (plN p f) g T n) m (chd p (plN p f) g T n (3 - m) a') = plN p (f + 1) g T n a := he
          rw [show 3 - m = z by omega] at he
          have skip : chd p (plN p f) g T n z a' = a' → WX mi_P_layRest (f + 2 + 3) Q 62 [some (.ref 33), some (.int (nI n)), some (.int (sI (fun k => (gSl g k).isSome))), some (.int (sI (jnT 2 g 16))), some (.int (sI (jnT 3 g 16))), some (.int (sI (fre p g))), some (.int (nI (frL p g))), some (.int (nI z + 1)), none, none, none] [] M' := by
            intro c
            rw [c] at he
            rw [nI_1]
            exact ihm (z + 1) (by omega) a' M' ha' hr' hf' he
          refine sg_P_layRest_33_62 (d := f + 2) M' _ _ _ _ _ _ _ (fun c => absurd c n4) (fun _ => vz) (fun _ c => skip (chd_f (fun q => ?_))) (fun _ _ _ _ => vz) (fun _ _ _ _ _ _ _ => vz) (fun _ _ c => skip (chd_f (fun q => ?_))) (fun _ _ _ _ _ => vz) (fun _ c c2 c3 => skip ?_) (fun _ _ _ _ => vz) (fun _ _ _ _ => vk) (fun _ c c2 c3 => ?_)
          · rw [es] at c
            have := (nI_le0 (by omega)).mp c
            have := q.1
            omega
          · exact absurd c ((fits_C hz4 hk).mpr q.2)
          · have ly := (fits_C hz4 hk).mp c2
            have h1 : 0 < gSt g z := by
              rw [es] at c
              exact Nat.pos_of_ne_zero (fun q => c ((nI_le0 (by omega)).mpr q))
            rw [chd_t ⟨h1, ly⟩]
            obtain ⟨w1, w2, w3⟩ := sets_put (t := true) hz4 hk ly
            rw [w1, w2, w3, cross_C (wfg_putc hg ly), sI_zero, ← cnt_0 16] at c3
            exact pl_cross _ _ _ _ _ c3
          · have ly := (fits_C hz4 hk).mp c2
            have h1 : 0 < gSt g z := by
              rw [es] at c
              exact Nat.pos_of_ne_zero (fun q => c ((nI_le0 (by omega)).mpr q))
            rw [chd_t ⟨h1, ly⟩] at he
            obtain ⟨w1, w2, w3⟩ := sets_put (t := true) hz4 hk ly
            rw [w1, w2, w3, cross_C (wfg_putc hg ly), sI_zero, ← cnt_0 16] at c3
            rw [w1, w2, w3, es, ez, ek, nI_posS h1, nI_1]
            have efr := frN_putc (t := true) hz4 hk ly
            have hsz : 1 ≤ szC z := by unfold szC; split <;> (try split) <;> omega
            have ed : (16 * z + frL p g) / 16 = z := by omega
            have st : ∀ y, gSt (putc (16 * z + frL p g) true g) y = if y = z then gSt g y - 1 else gSt g y := fun y => by
              show (if y = (16 * z + frL p g) / 16 then gSt g y - 1 else gSt g y) = _
              rw [ed]
            refine ih (putc (16 * z + frL p g) true g) (upT T (frL p g) z) (n + 1) a' _ _ (by omega) (by omega) (wfg_putc hg ly) c3 (fun k hk' => ?_) ha' ⟨fun y hy => ?_, fun j hj => ?_, ?_, fun j hj => ?_, ?_⟩ (fun M3 r1 r2 => ?_)
            · rw [fre_putc] at hk'
              simp only [Bool.and_eq_true] at hk'
              have hne : k ≠ frL p g := by
                intro q
                have h2 : inS (16 * z + frL p g) k = true := by
                  have := inS_self (16 * z + frL p g) (by omega)
                  rw [show (16 * z + frL p g) % 16 = frL p g by omega] at this
                  rw [q]; exact this
                rw [h2] at hk'
                exact absurd hk'.2 (by decide)
              show (if k = frL p g then some z else T k) = none
              rw [if_neg hne]
              exact hT k hk'.1
            · rw [wr_ne _ (by decide), upd_row, st]
              by_cases q : y = z
              · rw [if_pos q, if_pos q, q]
              · rw [if_neg q, if_neg q]; exact hr'.1 y hy
            · rw [upd_row]
              show _ = eSz (if j = frL p g then some z else T j)
              by_cases q : j = frL p g
              · rw [if_pos q, if_pos q]; rfl
              · rw [if_neg q, if_neg q, wr_ne _ (by decide)]; exact hr'.2.1 j hj
            · rw [wr_ne _ (by decide), wr_ne _ (by decide)]; exact hr'.2.2.1
            · rw [wr_ne _ (by decide), wr_ne _ (by decide)]; exact hr'.2.2.2.1 j hj
            · rw [wr_ne _ (by decide), wr_ne _ (by decide)]; exact hr'.2.2.2.2
            · refine sg_P_layRest_33_178 (d := f + 2) M3 _ _ _ _ _ _ _ _ _ _ vk vz ?_
              have f3 : FP M M3 := hf'.trans (((FP.refl M').wr36 _ _).wr35 _ _ |>.trans r2)
              rw [ez, ek, r1.1 z hz4, st, if_pos rfl, nI_1, nI_1, show gSt g z - 1 + 1 = gSt g z by omega]
              refine ihm (z + 1) (by omega) _ _ (Nat.le_trans (pl_bd _ _ _ _ _) ha') ⟨fun y hy => ?_, fun j hj => ?_, ?_, fun j hj => ?_, ?_⟩ ((f3.wr35 _ _).wr36 _ _) he
              · rw [upd_row]
                by_cases q : y = z
                · rw [if_pos q, q]
                · rw [if_neg q, wr_ne _ (by decide)]
                  have := r1.1 y hy
                  rw [st, if_neg q] at this
                  exact this
              · rw [wr_ne _ (by decide), upd_row]
                by_cases q : j = frL p g
                · rw [if_pos q, q, hT _ hkf]; rfl
                · rw [if_neg q]
                  have : M3.1 35 j = eSz (if j = frL p g then some z else T j) := r1.2.1 j hj
                  rw [if_neg q] at this
                  exact this
              · rw [wr_ne _ (by decide), wr_ne _ (by decide)]; exact r1.2.2.1
              · rw [wr_ne _ (by decide), wr_ne _ (by decide)]; exact r1.2.2.2.1 j hj
              · rw [wr_ne _ (by decide), wr_ne _ (by decide)]; exact r1.2.2.2.2
      refine sg_P_layRest_33_0 (d := f + 2) M _ _ _ _ (fun c => ?_) (fun _ c c2 => ?_) (fun _ c c2 => ?_) (fun _ c => ?_)
      · exact absurd c (Int32.not_lt.mpr ((nI_le_iff (b := 16) (by omega) (by decide)).mpr (by omega)))
      · rw [free_C hr, low_C hk hkf hk0]
        exact kids 4 0 rfl a M ha hr (FP.refl M) eR.symm
      · rw [free_C hr] at c2
        exact absurd (fre_0.mp c2) h0
      · rw [free_C hr, eb] at c
        refine hK M ?_ (FP.refl M)
        rw [pl_le _ _ _ _ _ (by omega)]
        exact hr
