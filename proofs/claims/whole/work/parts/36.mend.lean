theorem pp_cnt (s : Nat) : ∀ i, pp s i = cntB s.testBit i
  | 0 => rfl
  | i + 1 => by
    show pp s i + (if s.testBit i = true then 1 else 0) = cntB s.testBit i + t1 s.testBit i
    rw [pp_cnt s i]
    rfl
theorem wx_many {M : Mem} {Q : Option Value → Mem → Prop} {f : Nat → Bool} (hQ : Q (some (.int (nI (cntB f 16)))) M) : WX mi_M_manyOf 1 Q 0 [some (.int (sI f)), none, none] [] M := by
  unfold sI
  refine wx_manyOf ?_
  rw [pp_cnt, cntB_congr 16 (fun k hk => by rw [sN_tb, decide_eq_true hk, Bool.true_and] : ∀ k, k < 16 → (sN 16 f).testBit k = f k)]
  exact hQ
theorem nI_dst {a v : Nat} (ha : a ≤ 9) (hv : v ≤ 9) : (nI a ≤ nI v → nI v - nI a = nI (dst a v)) ∧ (¬ nI a ≤ nI v → nI a - nI v = nI (dst a v)) := by
  constructor
  · intro h
    have := (nI_le_iff (by omega) (by omega)).mp h
    rw [nI_subn this (by omega)]
    unfold dst
    rw [if_pos this]
  · intro h
    have : ¬ a ≤ v := fun q => h ((nI_le_iff (by omega) (by omega)).mpr q)
    rw [nI_subn (by omega) (by omega)]
    unfold dst
    rw [if_neg this]
/-- the model's step over one height -/
theorem wx_mstep {b n k v : Nat} {x1 : Int32} {s : Md} {h : Nat → Nat} {M : Mem} {Q : Option Value → Mem → Prop} (hb : b ≤ 16) (hs : MI b s) (hk : k < 16) (hn : n ≤ 16) (h9 : h k ≤ 9) (hv : v ≤ 9) (hr : M.1 46 k = nI (h k))
    (hQ : WX mi_M_mend 6 Q 75 [some (.ref 37), some (.int x1), some (.int (nI (upm n k v (dst (h k) v) s).2)), some (.int (eF0 (upm n k v (dst (h k) v) s))), some (.int (eF2 (upm n k v (dst (h k) v) s))), some (.int (eF3 (upm n k v (dst (h k) v) s))), some (.int (nI k)), some (.int (nI (v + 1))), none, none] [] M) : WX mi_M_mend 6 Q 120 [some (.ref 37), some (.int x1), some (.int (nI s.2)), some (.int (eF0 s)), some (.int (eF2 s)), some (.int (eF3 s)), some (.int (nI k)), some (.int (nI v)), none, none] [.int (nI n)] M := by
  have hl := hs.1
  have er : M.1 46 (nI k).toNatClampNeg = nI (h k) := by rw [nI_clamp (by omega)]; exact hr
  have hd := dst_le h9 hv
  have big : vp_in (nI k) 1257 := vp_in_nI (by omega) (by decide)
  have lt1 : nI n < nI s.2 → upm n k v (dst (h k) v) s = (some (k, v, dst (h k) v), n) := fun c => by
    have := (nI_lt_iff (by omega) (by omega)).mp c
    unfold upm; rw [if_pos this]
  have ne1 : ¬ nI n < nI s.2 → ¬ nI n = nI s.2 → upm n k v (dst (h k) v) s = s := fun c1 c2 => by
    unfold upm
    rw [if_neg (fun q => c1 ((nI_lt_iff (by omega) (by omega)).mpr q)), if_neg (fun q => c2 (by rw [q]))]
  have no1 : ¬ nI n < nI s.2 → nI n = nI s.2 → eF0 s = -9 → upm n k v (dst (h k) v) s = s := fun c1 c2 c3 => by
    unfold upm
    rw [if_neg (fun q => c1 ((nI_lt_iff (by omega) (by omega)).mpr q)), if_pos ((nI_eq (by omega) (by omega)).mp c2)]
    cases ho : s.1 with
    | none => rfl
    | some f =>
      unfold eF0 at c3
      rw [ho] at c3
      exact absurd c3 (nI_nm9 (by have := (hs.2 f ho).2.1; omega))
  have so1 : ¬ nI n < nI s.2 → nI n = nI s.2 → ¬ eF0 s = -9 → eF3 s ≤ nI (dst (h k) v) → upm n k v (dst (h k) v) s = s := fun c1 c2 c3 c4 => by
    unfold upm
    rw [if_neg (fun q => c1 ((nI_lt_iff (by omega) (by omega)).mpr q)), if_pos ((nI_eq (by omega) (by omega)).mp c2)]
    cases ho : s.1 with
    | none => rfl
    | some f =>
      dsimp only
      unfold eF3 at c4
      rw [ho] at c4
      have hf := hs.2 f ho
      have := (nI_le_iff (by omega) (by omega)).mp c4
      rw [if_neg (by omega)]
  have go1 : ¬ nI n < nI s.2 → nI n = nI s.2 → ¬ eF0 s = -9 → ¬ eF3 s ≤ nI (dst (h k) v) → upm n k v (dst (h k) v) s = (some (k, v, dst (h k) v), n) := fun c1 c2 c3 c4 => by
    unfold upm
    rw [if_neg (fun q => c1 ((nI_lt_iff (by omega) (by omega)).mpr q)), if_pos ((nI_eq (by omega) (by omega)).mp c2)]
    cases ho : s.1 with
    | none => unfold eF0 at c3; rw [ho] at c3; exact absurd rfl c3
    | some f =>
      dsimp only
      unfold eF3 at c4
      rw [ho] at c4
      have hf := hs.2 f ho
      have : dst (h k) v < f.2.2 := Nat.lt_of_not_le (fun q => c4 ((nI_le_iff (by omega) (by omega)).mpr q))
      rw [if_pos this]
  have kd := nI_dst h9 hv
  refine sg_M_mend_37_120 M _ _ _ _ _ _ _ _ big (fun _ => big) (fun c c1 => ?_) (fun c c1 c2 => ?_) (fun c c1 c2 c3 => ?_) (fun c c1 c2 c3 c4 => ?_) (fun c c1 c2 c3 c4 => ?_) (fun _ => big) (fun c c1 => ?_) (fun c c1 c2 => ?_) (fun c c1 c2 c3 => ?_) (fun c c1 c2 c3 c4 => ?_) (fun c c1 c2 c3 c4 => ?_)
  · rw [er] at c ⊢
    rw [lt1 c1] at hQ
    rw [kd.1 c, nI_1]
    exact hQ
  · rw [ne1 c1 c2] at hQ
    rw [nI_1]
    exact hQ
  · rw [no1 c1 c2 c3] at hQ
    rw [nI_1]
    exact hQ
  · rw [er] at c c4
    rw [kd.1 c] at c4
    rw [so1 c1 c2 c3 c4] at hQ
    rw [nI_1]
    exact hQ
  · rw [er] at c c4 ⊢
    rw [kd.1 c] at c4 ⊢
    rw [go1 c1 c2 c3 c4] at hQ
    rw [nI_1]
    exact hQ
  · rw [er] at c ⊢
    rw [lt1 c1] at hQ
    rw [kd.2 c, nI_1]
    exact hQ
  · rw [ne1 c1 c2] at hQ
    rw [nI_1]
    exact hQ
  · rw [no1 c1 c2 c3] at hQ
    rw [nI_1]
    exact hQ
  · rw [er] at c c4
    rw [kd.2 c] at c4
    rw [so1 c1 c2 c3 c4] at hQ
    rw [nI_1]
    exact hQ
  · rw [er] at c c4 ⊢
    rw [kd.2 c] at c4 ⊢
    rw [go1 c1 c2 c3 c4] at hQ
    rw [nI_1]
    exact hQ
/-- what mend answers -/
def meA (s : Md) (x : Int32) : Int32 := if eF0 s = -9 then -9 else if x = 0 then eF0 s else if x = 1 then eF1 s else nI s.2
theorem eF12 (s : Md) (h : ¬ eF0 s = -9) : eF2 s = eF1 s := by
  unfold eF2 eF1
  cases ho : s.1 with
  | none => unfold eF0 at h; rw [ho] at h; exact absurd rfl h
  | some f => rfl
theorem a_mend (x : Int32) : Agr Inv mi_C_mend mi_M_mend 5 6 [.int x] := by
  refine agr_ans (fun i s M hw hc hm => ?_)
  obtain ⟨t, p, gh, im, sn, tr⟩ := s
  have hp : WfP p := hw.2.1
  have hg : WfG (20 + i) p gh.1 := hw.2.2.1.1
  have hcg : RCg 9 p gh M := hc.2.2.1
  have hh := ht_ok hg
  have hin : ¬ z_M_in x 0 2 = 0 ↔ (0 ≤ x ∧ x ≤ 2) := by rw [in_bI, bI_0]; simp
  by_cases hx : 0 ≤ x ∧ x ≤ 2
  · refine ⟨meA (outM p (gHt gh.1) 16) x, fun Q hQ => ?_, fun M1 Q hm1 hQ => ?_⟩
    · refine sg_C_mend_0_0 M _ (fun c => absurd c (Int32.not_lt.mpr hx.1)) (fun _ _ => ?_) (fun _ c => absurd hx.2 c)
      refine wx_fill hp hc.2.1 hh hcg.1 (fun M1 r1 r2 r3 => ?_)
      refine sg_C_mend_0_26 M1 _ ?_
      refine wx_search hh r1 (fun M2 q1 q2 q3 => ?_)
      have fin := hQ M2 (fun q _ hs => (q2 q (fun q' => hs (by unfold scrC; omega)) (fun q' => hs (by unfold scrC; omega))).trans (r2 q (fun q' => hs (by unfold scrC; omega)))) (fun q hq => (q2 q (by omega) (by omega)).trans (r2 q (by omega))) (q3.trans r3)
      obtain ⟨c0, c1, c2, c3⟩ := q1
      unfold meA at fin
      refine sg_C_mend_0_37 M2 _ (fun a b => ?_) (fun a b => ?_) (fun a b c => ?_) (fun a => ?_)
      · rw [c0] at a ⊢
        rw [if_neg a, if_pos b] at fin
        exact fin
      · rw [c0] at a
        rw [c1]
        rw [if_neg a, if_neg (by rw [b]; decide), if_pos b] at fin
        exact fin
      · rw [c0] at a
        rw [c2]
        rw [if_neg a, if_neg b, if_neg c] at fin
        exact fin
      · rw [c0] at a
        rw [if_pos a] at fin
        exact fin
    · refine sg_M_mend_37_0 M1 _ (fun _ => ?_) (fun c => absurd c (hin.mpr hx))
      refine wx_puddles_46 hp hm1.2.1 hh hm1.hts ?_
      refine sg_M_mend_37_19 M1 _ _ ?_
      refine wx_many ?_
      refine sg_M_mend_37_22 M1 _ _ ?_
      have hts : ∀ k, k < 16 → thr p k = true → M1.1 46 k = nI (gHt gh.1 k) := hm1.hts
      have outer : ∀ u, u ≤ 16 → ∀ M2 : Mem, (∀ k, k < 16 → M2.1 48 k = M1.1 46 k) → (∀ q, q ≠ 48 → M2.1 q = M1.1 q) → M2.2 = M1.2 → WX mi_M_mend 6 Q 65 [some (.ref 37), some (.int x), some (.int (nI (outM p (gHt gh.1) u).2)), some (.int (eF0 (outM p (gHt gh.1) u))), some (.int (eF2 (outM p (gHt gh.1) u))), some (.int (eF3 (outM p (gHt gh.1) u))), some (.int (nI u)), none, none, none] [] M2 := by
        refine downN 16 (fun M2 h1 h2 h3 => ?_) (fun u hu ih M2 h1 h2 h3 => ?_)
        · have rm2 : RM (t, p, gh, im, sn, tr) M2 := hm1.of_eq (h2 38 (by decide)) (h2 46 (by decide)) (h2 47 (by decide)) (h2 55 (by decide)) (by rw [h2 37 (by decide)]) (by rw [h2 37 (by decide)]) (by rw [h2 39 (by decide)]) (by rw [h2 40 (by decide)]) (by rw [h2 41 (by decide)]) (by rw [h2 42 (by decide)]) (by rw [h2 43 (by decide)]) (by rw [h3])
          have fin := hQ M2 rm2 ⟨fun q hq => h2 q (by omega), by rw [h3]⟩
          unfold meA at fin
          refine sg_M_mend_37_65 M2 _ _ _ _ _ _ (fun _ a => ?_) (fun _ a b c => ?_) (fun _ a b c => ?_) (fun _ a b => ?_) (fun c => absurd ge16 c)
          · rw [if_pos a] at fin; rw [a]; exact fin
          · rw [if_neg a, if_neg b, if_neg c] at fin; exact fin
          · rw [if_neg a, if_neg b, if_pos c, ← eF12 _ a] at fin; exact fin
          · rw [if_neg a, if_pos b] at fin; exact fin
        · have mi := outM_MI hh u (by omega)
          have nx16 := lt16 hu
          refine sg_M_mend_37_65 M2 _ _ _ _ _ _ (fun c => absurd c nx16) (fun c => absurd c nx16) (fun c => absurd c nx16) (fun c => absurd c nx16) (fun _ => ?_)
          have big : vp_in (nI u) 1257 := vp_in_nI (by omega) (by decide)
          have b16 : vp_in (nI u) 16 := vp_in_nI hu (by decide)
          have restore : ∀ (s : Md) (M3 : Mem), s = outM p (gHt gh.1) (u + 1) → (∀ k, k < 16 → k ≠ u → M3.1 48 k = M1.1 46 k) → (∀ q, q ≠ 48 → M3.1 q = M1.1 q) → M3.2 = M1.2 → WX mi_M_mend 6 Q 65 [some (.ref 37), some (.int x), some (.int (nI s.2)), some (.int (eF0 s)), some (.int (eF2 s)), some (.int (eF3 s)), some (.int (nI u + 1)), none, none, none] [] (wr M3 48 (nI u).toNatClampNeg (M3.1 46 (nI u).toNatClampNeg)) := by
            intro s M3 hs g1 g2 g3
            rw [nI_clamp (by omega), nI_1, hs]
            refine ih _ (fun k hk => ?_) (fun q hq => by rw [wr_ne _ hq]; exact g2 q hq) g3
            rw [upd_row, g2 46 (by decide)]
            by_cases e : k = u
            · rw [if_pos e, e]
            · rw [if_neg e]; exact g1 k hk e
          have hm2p : ∀ M3 : Mem, (∀ q, q ≠ 48 → M3.1 q = M1.1 q) → RMp p M3 := fun M3 g2 => by
            have := hm1.2.1
            unfold RMp at this ⊢
            rw [g2 39 (by decide), g2 40 (by decide), g2 41 (by decide), g2 42 (by decide), g2 43 (by decide)]
            exact this
          by_cases e : dry p u = true ∧ pD p u = false
          · have e2 : outM p (gHt gh.1) (u + 1) = innM p (gHt gh.1) u 10 (outM p (gHt gh.1) u) := by show (if dry p u = true ∧ pD p u = false then _ else _) = _; rw [if_pos e]
            have h9 := hh u hu (dry_thr e.1)
            have inner : ∀ v, v ≤ 10 → ∀ M3 : Mem, (∀ k, k < 16 → k ≠ u → M3.1 48 k = M1.1 46 k) → (∀ q, q ≠ 48 → M3.1 q = M1.1 q) → M3.2 = M1.2 → WX mi_M_mend 6 Q 75 [some (.ref 37), some (.int x), some (.int (nI (innM p (gHt gh.1) u v (outM p (gHt gh.1) u)).2)), some (.int (eF0 (innM p (gHt gh.1) u v (outM p (gHt gh.1) u)))), some (.int (eF2 (innM p (gHt gh.1) u v (outM p (gHt gh.1) u)))), some (.int (eF3 (innM p (gHt gh.1) u v (outM p (gHt gh.1) u)))), some (.int (nI u)), some (.int (nI v)), none, none] [] M3 := by
              refine downN 10 (fun M3 g1 g2 g3 => ?_) (fun v hv ih2 M3 g1 g2 g3 => ?_)
              · have n9 : (9 : Int32) < nI 10 := by decide
                exact sg_M_mend_37_75 M3 _ _ _ _ _ _ _ (fun _ => big) (fun _ => b16) (fun _ => restore _ M3 e2.symm g1 g2 g3) (fun c => absurd n9 c) (fun c => absurd n9 c) (fun c => absurd n9 c) (fun c => absurd n9 c) (fun c => absurd n9 c) (fun c => absurd n9 c) (fun c => absurd n9 c) (fun c => absurd n9 c) (fun c => absurd n9 c)
              · have n9 : ¬ (9 : Int32) < nI v := by
                  rw [show (9 : Int32) = nI 9 from rfl]
                  intro q
                  have := (nI_lt_iff (by omega) (by omega)).mp q
                  omega
                have hmp := hm2p M3 g2
                have ed : ¬ z_M_isDry_37 M3 (nI u) = 0 := by rw [isDry_M hp hmp hu, show (thr p u && !pL p u) = true from e.1]; decide
                have edr : ¬ ¬ z_M_isDrain_37 M3 (nI u) = 0 := by rw [isDrain_M hmp hu, e.2]; decide
                refine sg_M_mend_37_75 M3 _ _ _ _ _ _ _ (fun c => absurd c n9) (fun c => absurd c n9) (fun c => absurd c n9) (fun _ => by rw [isCell_M hp hmp]; exact bI_01 _) (fun _ c => absurd c ed) (fun _ c => absurd c ed) (fun _ c => absurd c ed) (fun _ _ c => absurd c edr) (fun _ _ c => absurd c edr) (fun _ _ c => absurd c edr) (fun _ _ _ => b16) (fun _ _ _ => ?_)
                rw [nI_clamp (by omega)]
                have hr2 : ∀ k, k < 16 → thr p k = true → (wr M3 48 u (nI v)).1 48 k = nI (hset (gHt gh.1) u v k) := by
                  intro k hk ht
                  rw [upd_row]
                  unfold hset
                  by_cases ek : k = u
                  · rw [if_pos ek, if_pos ek]
                  · rw [if_neg ek, if_neg ek, g1 k hk ek]; exact hts k hk ht
                have g2' : ∀ q, q ≠ 48 → (wr M3 48 u (nI v)).1 q = M1.1 q := fun q hq => by rw [wr_ne _ hq]; exact g2 q hq
                refine wx_puddles_48 hp (hm2p _ g2') (hset_ok hh (by omega)) hr2 ?_
                refine sg_M_mend_37_117 _ _ _ _ _ _ _ _ _ ?_
                refine wx_many ?_
                have hIM := innM_MI (p := p) (h := gHt gh.1) hu h9 v (outM p (gHt gh.1) u) (by omega) mi
                have er46 : (wr M3 48 u (nI v)).1 46 u = nI (gHt gh.1 u) := by rw [g2' 46 (by decide)]; exact hts u hu (dry_thr e.1)
                refine wx_mstep (h := gHt gh.1) (pcn_le p (gHt gh.1)) hIM hu (pcn_le p (hset (gHt gh.1) u v)) h9 (by omega) er46 ?_
                have nxt := ih2 (wr M3 48 u (nI v)) (fun k hk ek => by rw [upd_row, if_neg ek]; exact g1 k hk ek) g2' g3
                have eI : innM p (gHt gh.1) u (v + 1) (outM p (gHt gh.1) u) = upm (cntB (pud p (hset (gHt gh.1) u v)) 16) u v (dst (gHt gh.1 u) v) (innM p (gHt gh.1) u v (outM p (gHt gh.1) u)) := by
                  show (if v = gHt gh.1 u then innM p (gHt gh.1) u v (outM p (gHt gh.1) u) else upm (pcn p (hset (gHt gh.1) u v)) u v (dst (gHt gh.1 u) v) (innM p (gHt gh.1) u v (outM p (gHt gh.1) u))) = _
                  by_cases ev : v = gHt gh.1 u
                  · rw [if_pos ev]
                    have e0 : dst (gHt gh.1 u) v = 0 := by unfold dst; rw [ev, if_pos (Nat.le_refl _)]; exact Nat.sub_self _
                    have ec : cntB (pud p (hset (gHt gh.1) u v)) 16 = pcn p (gHt gh.1) := by rw [ev, hset_own]; rfl
                    rw [ec, upm_own hIM e0]
                  · rw [if_neg ev]; rfl
                rw [eI] at nxt
                exact nxt
            exact inner 0 (by decide) M2 (fun k hk _ => h1 k hk) h2 h3
          · have e2 : outM p (gHt gh.1) u = outM p (gHt gh.1) (u + 1) := by show _ = (if dry p u = true ∧ pD p u = false then _ else _); rw [if_neg e]
            have n9 : ¬ (9 : Int32) < 0 := by decide
            have hmp := hm2p M2 h2
            have edM : z_M_isDry_37 M2 (nI u) = bI (dry p u) := isDry_M hp hmp hu
            refine sg_M_mend_37_75 M2 _ _ _ _ _ _ _ (fun c => absurd c n9) (fun c => absurd c n9) (fun c => absurd c n9) (fun _ => by rw [isCell_M hp hmp]; exact bI_01 _) (fun _ _ => big) (fun _ _ => b16) (fun _ _ => ?_) (fun _ _ _ => big) (fun _ _ _ => b16) (fun _ _ _ => ?_) (fun _ _ _ => b16) (fun _ c c2 => ?_)
            · exact restore _ M2 e2 (fun k hk _ => h1 k hk) h2 h3
            · exact restore _ M2 e2 (fun k hk _ => h1 k hk) h2 h3
            · rw [edM, bI_0] at c
              rw [isDrain_M hmp hu, bI_0] at c2
              exact absurd ⟨by simpa using c, c2⟩ e
      have copy : ∀ i, i ≤ 16 → ∀ M2 : Mem, (∀ k, k < i → M2.1 48 k = M1.1 46 k) → (∀ q, q ≠ 48 → M2.1 q = M1.1 q) → M2.2 = M1.2 → WX mi_M_mend 6 Q 35 [some (.ref 37), some (.int x), some (.int (nI (pcn p (gHt gh.1)))), some (.int (-9)), some (.int 0), some (.int 0), some (.int (nI i)), none, none, none] [] M2 := by
        refine downN 16 (fun M2 h1 h2 h3 => ?_) (fun i hi ih M2 h1 h2 h3 => ?_)
        · exact sg_M_mend_37_35 M2 _ _ _ _ _ _ (fun _ => outer 0 (by decide) M2 h1 h2 h3) (fun c => absurd ge16 c) (fun c => absurd ge16 c) (fun c => absurd ge16 c)
        · refine sg_M_mend_37_35 M2 _ _ _ _ _ _ (fun c => absurd c (lt16 hi)) (fun _ => vp_in_nI (by omega) (by decide)) (fun _ => vp_in_nI hi (by decide)) (fun _ => ?_)
          rw [nI_clamp (by omega), nI_1]
          refine ih _ (fun k hk => ?_) (fun q hq => by rw [wr_ne _ hq]; exact h2 q hq) h3
          rw [upd_row, h2 46 (by decide)]
          by_cases e : k = i
          · rw [if_pos e, e]
          · rw [if_neg e]; exact h1 k (by omega)
      exact copy 0 (by decide) M1 (fun k hk => absurd hk (Nat.not_lt_zero k)) (fun _ _ => rfl) rfl
  · refine ⟨-1, fun Q hQ => ?_, fun M1 Q hm1 hQ => ?_⟩
    · have hd := hQ M (fun _ _ _ => rfl) (fun _ _ => rfl) rfl
      exact sg_C_mend_0_0 M _ (fun _ => hd) (fun c1 c2 => absurd ⟨Int32.not_lt.mp c1, c2⟩ hx) (fun _ _ => hd)
    · have hd := hQ M1 hm1 (FrM.refl M1)
      exact sg_M_mend_37_0 M1 _ (fun c => absurd (hin.mp c) hx) (fun _ => hd)
