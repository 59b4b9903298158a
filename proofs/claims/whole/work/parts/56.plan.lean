/-! ===== plan: the model's search, a node with its children ===== -/
theorem sl_putc (c : Nat) (t : Bool) (g : Gd) (k : Nat) : gSl (putc c t g) k = if inS c k = true then some c else gSl g k := rfl
theorem st_putc {z u : Nat} (hu : u < 16) (t : Bool) (g : Gd) (y : Nat) : gSt (putc (16 * z + u) t g) y = if y = z then gSt g y - 1 else gSt g y := by
  show (if y = (16 * z + u) / 16 then gSt g y - 1 else gSt g y) = _
  rw [show (16 * z + u) / 16 = z by omega]
/-- one size that doesn't go -/
theorem wx_skipM {B : Nat} {p : Pl} (hB : B ≤ 10000) (hp : WfP p) {g : Gd} {S : Nat → Nat × Nat} {n z : Nat} {a : Acc} {M : Mem} {Q : Option Value → Mem → Prop} (hz4 : z < 4) (hk : frL p g < 16) (hg : WfG B p g) (hm : RMp p M) (hr : RQ g S n a M) (hn : ¬ okZ p g z)
    (K : WX mi_M_findPlan 5 Q 249 [some (.ref 37), some (.int (nI n)), some (.int (nI z + 1)), some (.int (sI (fre p g))), some (.int 1), some (.int (nI (frL p g)))] [] M) :
    WX mi_M_findPlan 5 Q 249 [some (.ref 37), some (.int (nI n)), some (.int (nI z)), some (.int (sI (fre p g))), some (.int 1), some (.int (nI (frL p g)))] [] M := by
  have n4 : ¬ (4 : Int32) ≤ nI z := Int32.not_le.mpr (nI_lt (b := 4) hz4 (by decide))
  have vz : vp_in (nI z) 4 := vp_in_nI hz4 (by decide)
  have es : M.1 50 (nI z).toNatClampNeg = nI (gSt g z) := by rw [nI_clamp (by omega)]; exact hr.2.1 z hz4
  have hsB : gSt g z ≤ B := hg.2.2.2.2.2 z hz4
  have x1 : ¬ (1 : Int32) = 0 := by decide
  refine sg_M_findPlan_37_249 M _ _ _ _ _ (fun c => absurd c x1) (fun c => absurd c x1) (fun c => absurd c x1) (fun c => absurd c x1) (fun c => absurd c x1) (fun c => absurd c x1) (fun c => absurd c x1) (fun _ c => absurd c n4) (fun _ c => absurd c n4) (fun _ c => absurd c n4) (fun _ c => absurd c n4) (fun _ c => absurd c n4) (fun _ c => absurd c n4) (fun _ c => absurd c n4) (fun _ _ => vz) (fun _ _ _ => K) (fun _ _ c => ?_)
  rw [es] at c
  have h1 : 0 < gSt g z := Nat.pos_of_ne_zero (fun q => c ((nI_is0 (by omega)).mpr q))
  refine wx_cellsOf hp hm hz4 hk ?_
  refine sg_M_findPlan_37_275 M _ _ _ _ _ _ (fun _ => K) (fun c2 => ?_)
  have ha2 : ath p z (frL p g) = true := by
    cases q : ath p z (frL p g) with
    | true => rfl
    | false => rw [q] at c2; exact absurd rfl c2
  refine wx_cellsOf hp hm hz4 hk ?_
  rw [if_pos ha2, acc_sI hp hz4 hk ha2]
  exact sg_M_findPlan_37_285 M _ _ _ _ _ _ (fun _ c3 => absurd c3 x1) (fun _ c3 => absurd c3 x1) (fun _ c3 => absurd c3 x1) (fun _ _ c3 => absurd c3 n4) (fun _ _ c3 => absurd c3 n4) (fun _ _ c3 => absurd c3 n4) (fun c3 _ _ => absurd ⟨h1, (lays_M hp hz4 hk).mp ⟨ha2, c3⟩⟩ hn) (fun _ => K)
/-- a slab is put, and the next node begins -/
theorem wx_forthM {B : Nat} {p : Pl} (hB : B ≤ 10000) (hp : WfP p) {g : Gd} {S : Nat → Nat × Nat} {n z : Nat} {a : Acc} {M : Mem} {Q : Option Value → Mem → Prop} (hz4 : z < 4) (hk : frL p g < 16) (hn : n < 17) (hg : WfG B p g) (hm : RMp p M) (hr : RQ g S n a M) (ho : okZ p g z)
    (K : ∀ M', RQ (putc (16 * z + frL p g) true g) (pshS S n (frL p g) z) (n + 1) a M' → FQ M M' → WX mi_M_findPlan 5 Q 92 [some (.ref 37), some (.int (nI (n + 1))), some (.int (nI 0)), none, none, none] [] M') :
    WX mi_M_findPlan 5 Q 249 [some (.ref 37), some (.int (nI n)), some (.int (nI z)), some (.int (sI (fre p g))), some (.int 1), some (.int (nI (frL p g)))] [] M := by
  have n4 : ¬ (4 : Int32) ≤ nI z := Int32.not_le.mpr (nI_lt (b := 4) hz4 (by decide))
  have vz : vp_in (nI z) 4 := vp_in_nI hz4 (by decide)
  have ez : (nI z).toNatClampNeg = z := nI_clamp (by omega)
  have es : M.1 50 (nI z).toNatClampNeg = nI (gSt g z) := by rw [ez]; exact hr.2.1 z hz4
  have hsB : gSt g z ≤ B := hg.2.2.2.2.2 z hz4
  have x1 : ¬ (1 : Int32) = 0 := by decide
  obtain ⟨h1, ly⟩ := ho
  have ha2 := ath_ly hp hz4 hk ly
  refine sg_M_findPlan_37_249 M _ _ _ _ _ (fun c => absurd c x1) (fun c => absurd c x1) (fun c => absurd c x1) (fun c => absurd c x1) (fun c => absurd c x1) (fun c => absurd c x1) (fun c => absurd c x1) (fun _ c => absurd c n4) (fun _ c => absurd c n4) (fun _ c => absurd c n4) (fun _ c => absurd c n4) (fun _ c => absurd c n4) (fun _ c => absurd c n4) (fun _ c => absurd c n4) (fun _ _ => vz) (fun _ _ c => ?_) (fun _ _ _ => ?_)
  · rw [es] at c
    have := (nI_is0 (by omega)).mp c
    omega
  · refine wx_cellsOf hp hm hz4 hk ?_
    rw [if_pos ha2, acc_sI hp hz4 hk ha2]
    refine sg_M_findPlan_37_275 M _ _ _ _ _ _ (fun c2 => absurd c2 (inS_ne hz4 hk)) (fun _ => ?_)
    refine wx_cellsOf hp hm hz4 hk ?_
    rw [if_pos ha2, acc_sI hp hz4 hk ha2]
    refine sg_M_findPlan_37_285 M _ _ _ _ _ _ (fun _ c3 => absurd c3 x1) (fun _ c3 => absurd c3 x1) (fun _ c3 => absurd c3 x1) (fun _ _ c3 => absurd c3 n4) (fun _ _ c3 => absurd c3 n4) (fun _ _ c3 => absurd c3 n4) (fun _ _ _ => ?_) (fun c3 => absurd ((lays_M hp hz4 hk).mpr ly).2 c3)
    refine wx_cellsOf hp hm hz4 hk ?_
    rw [if_pos ha2, acc_sI hp hz4 hk ha2]
    refine sg_M_findPlan_37_320 M _ _ _ _ _ _ _ ?_
    have ev : (16 * nI z) + nI (frL p g) = nI (16 * z + frL p g) := by rw [show (16 : Int32) = nI 16 from rfl, nI_mul, nI_add]
    rw [ev]
    refine wx_putM49 (fun M2 p1 p2 p3 => ?_)
    refine sg_M_findPlan_37_330 M2 _ _ _ _ _ vz (vp_in_nI (by omega) (by decide)) ?_
    have f2 : FQ M M2 := (FQ.refl M).put p2 p3
    rw [ez, nI_clamp (show n < 2 ^ 31 by omega), nI_1, p2 50 (by decide), hr.2.1 z hz4, nI_posS h1]
    refine K _ ⟨fun k hk' => ?_, fun y hy => ?_, fun i hi => ?_, ?_, fun k hk' => ?_⟩ (((f2.wo ⟨by decide, by decide⟩ _ _).wo ⟨by decide, by decide⟩ _ _).wo ⟨by decide, by decide⟩ _ _)
    · rw [wr_ne _ (by decide), wr_ne _ (by decide), wr_ne _ (by decide), p1 k, sl_putc]
      by_cases q : inS (16 * z + frL p g) k = true
      · rw [if_pos ⟨hk', q⟩, if_pos q]; rfl
      · rw [if_neg (fun r => q r.2), if_neg q]; exact hr.1 k hk'
    · rw [wr_ne _ (by decide), wr_ne _ (by decide), upd_row, st_putc hk]
      by_cases q : y = z
      · rw [if_pos q, if_pos q, q]
      · rw [if_neg q, if_neg q, p2 50 (by decide)]; exact hr.2.1 y hy
    · by_cases q : i = n
      · have e1 : (pshS S n (frL p g) z i).1 = frL p g := by unfold pshS; rw [if_pos q]
        have e2 : (pshS S n (frL p g) z i).2 = z := by unfold pshS; rw [if_pos q]
        rw [e1, e2]
        refine ⟨?_, hk, ?_, hz4⟩
        · rw [wr_ne _ (by decide), upd_row, if_pos q]
        · rw [upd_row, if_pos q]
      · have e : pshS S n (frL p g) z i = S i := if_neg q
        have hi' := hr.2.2.1 i (by omega)
        rw [e]
        refine ⟨?_, hi'.2.1, ?_, hi'.2.2.2⟩
        · rw [wr_ne _ (by decide), upd_row, if_neg q, wr_ne _ (by decide), p2 51 (by decide)]; exact hi'.1
        · rw [upd_row, if_neg q, wr_ne _ (by decide), wr_ne _ (by decide), p2 52 (by decide)]; exact hi'.2.2.1
    · rw [wr_ne _ (by decide), wr_ne _ (by decide), wr_ne _ (by decide), p2 37 (by decide)]; exact hr.2.2.2.1
    · rw [wr_ne _ (by decide), wr_ne _ (by decide), wr_ne _ (by decide), p2 53 (by decide)]; exact hr.2.2.2.2 k hk'
/-- the slab is taken back -/
theorem wx_backP {p : Pl} (hp : WfP p) {g : Gd} {S : Nat → Nat × Nat} {n z : Nat} {a : Acc} {M : Mem} {Q : Option Value → Mem → Prop} (hz4 : z < 4) (hk : frL p g < 16) (hn : n < 17) (hm : RMp p M) (ho : okZ p g z) (hr : RQ (putc (16 * z + frL p g) true g) (pshS S n (frL p g) z) (n + 1) a M)
    (K : ∀ M', RQ g S n a M' → FQ M M' → WX mi_M_findPlan 5 Q 92 [some (.ref 37), some (.int (nI n)), some (.int (nI (z + 1))), none, none, none] [] M') : Pop Q (n + 1) M := by
  have vz : vp_in (nI z) 4 := vp_in_nI hz4 (by decide)
  have ez : (nI z).toNatClampNeg = z := nI_clamp (by omega)
  obtain ⟨h1, ly⟩ := ho
  have ha2 := ath_ly hp hz4 hk ly
  have en : nI (n + 1) + (-1) = nI n := (n_less (n := n + 1) (by omega)).2 (by omega)
  have e1 : (pshS S n (frL p g) z n).1 = frL p g := by unfold pshS; rw [if_pos rfl]
  have e2 : (pshS S n (frL p g) z n).2 = z := by unfold pshS; rw [if_pos rfl]
  have top := hr.2.2.1 n (by omega)
  rw [e1, e2] at top
  intro y2 y3 y4 y5
  refine ⟨fun q => absurd q (by omega), fun _ => ?_⟩
  rw [en, nI_clamp (show n < 2 ^ 31 by omega), top.1, top.2.2.1]
  refine wx_cellsOf hp hm hz4 hk ?_
  rw [if_pos ha2, acc_sI hp hz4 hk ha2]
  refine sg_M_findPlan_37_391 M _ _ _ _ _ _ _ ?_
  refine wx_putM49 (fun M4 q1 q2 q3 => ?_)
  have f4 : FQ M M4 := (FQ.refl M).put q2 q3
  have e52 : M4.1 52 (nI n).toNatClampNeg = nI z := by rw [nI_clamp (by omega), q2 52 (by decide)]; exact top.2.2.1
  refine sg_M_findPlan_37_396 M4 _ _ _ _ _ (vp_in_nI (by omega) (by decide)) (by rw [e52]; exact vz) ?_
  rw [e52, ez, nI_1, q2 50 (by decide), hr.2.1 z hz4, st_putc hk, if_pos rfl, nI_1, show gSt g z - 1 + 1 = gSt g z by omega]
  refine K _ ⟨fun k hk' => ?_, fun y hy => ?_, fun i hi => ?_, ?_, fun k hk' => ?_⟩ (f4.wo ⟨by decide, by decide⟩ _ _)
  · rw [wr_ne _ (by decide), q1 k]
    have := hr.1 k hk'
    rw [sl_putc] at this
    by_cases q : inS (16 * z + frL p g) k = true
    · rw [if_pos ⟨hk', q⟩, (ly.2 k q).2.2]; rfl
    · rw [if_neg (fun r => q r.2), this, if_neg q]
  · rw [upd_row]
    by_cases q : y = z
    · rw [if_pos q, q]
    · rw [if_neg q, q2 50 (by decide)]
      have := hr.2.1 y hy
      rw [st_putc hk, if_neg q] at this
      exact this
  · rw [wr_ne _ (by decide), wr_ne _ (by decide), q2 51 (by decide), q2 52 (by decide)]
    have := hr.2.2.1 i (by omega)
    rw [show pshS S n (frL p g) z i = S i from if_neg (by omega)] at this
    exact this
  · rw [wr_ne _ (by decide), q2 37 (by decide)]; exact hr.2.2.2.1
  · rw [wr_ne _ (by decide), q2 53 (by decide)]; exact hr.2.2.2.2 k hk'
/-- the head of a node with free cells -/
theorem wx_headM {B : Nat} {p : Pl} (hp : WfP p) {g : Gd} {S : Nat → Nat × Nat} {n z : Nat} {a : Acc} {M : Mem} {Q : Option Value → Mem → Prop} (h0 : ¬ frN p g = 0) (hn : n ≤ 16) (hg : WfG B p g) (hm : RMp p M) (ha : a.1 ≤ 99) (hr : RQ g S n a M)
    (K1 : WX mi_M_findPlan 5 Q 249 [some (.ref 37), some (.int (nI n)), some (.int (nI z)), some (.int (sI (fre p g))), some (.int 1), some (.int (nI (frL p g)))] [] M)
    (K2 : a.1 ≤ n + lsG p g → Pop Q n M) : WX mi_M_findPlan 5 Q 92 [some (.ref 37), some (.int (nI n)), some (.int (nI z)), none, none, none] [] M := by
  obtain ⟨hk, hkf, hk0⟩ := frL_of h0
  have hb : ∀ k c, gSl g k = some c → c < 64 := fun k c h => (hg.2.1 k c h).2.1.1
  have nn : ¬ nI n < 0 := by
    rw [Int32.not_lt]
    exact (nI_le_iff (a := 0) (by decide) (by omega)).mpr (Nat.zero_le n)
  have fz : ¬ sI (fre p g) = 0 := fun c => h0 (fre_0.mp c)
  have ls1 : 1 ≤ lsG p g := lst_1 (Nat.pos_of_ne_zero h0)
  refine sg_M_findPlan_37_92 M _ _ (fun c => absurd c nn) (fun _ => ?_)
  refine wx_freeBy49 (o := 0) (sl := gSl g) hp hm (by decide) (fun k hk => by rw [Nat.zero_add]; exact hr.1 k hk) hb ?_
  have low : WX mi_M_lowest 1 (fun rv M'' => WX mi_M_findPlan 5 Q 243 [some (.ref 37), some (.int (nI n)), some (.int (nI z)), some (.int (sI (fre p g))), some (.int 1), none] (rv.toList ++ []) M'') 0 [some (.ref 37), some (.int (sI (fre p g))), none] [] M :=
    wx_lowest hk hkf hk0 (sg_M_findPlan_37_243 M _ _ _ _ _ K1)
  show WX mi_M_findPlan 5 Q 105 [some (.ref 37), some (.int (nI n)), some (.int (nI z)), none, none, none] [.int (sI (fre p g))] M
  refine sg_M_findPlan_37_105 M _ _ _ (fun _ c => absurd c fz) (fun _ _ _ => low) (fun _ _ c c2 => ?_) (fun _ _ _ _ => low) (fun c => absurd c fz) (fun c => absurd c fz) (fun c => absurd c fz) (fun c => absurd c fz) (fun c => absurd c fz) (fun c => absurd c fz)
  rw [hr.2.2.2.1] at c c2
  rw [nI_1, few_le ha c (by omega)] at c2
  exact pop_0 (K2 (by omega)) (by omega) _ _ _
theorem wx_nodeM {B : Nat} {p : Pl} (hB : B ≤ 10000) (hp : WfP p) : ∀ (f : Nat) (g : Gd) (S : Nat → Nat × Nat) (n : Nat) (a : Acc) (M : Mem) (Q : Option Value → Mem → Prop), frN p g ≤ f → n + frN p g ≤ 16 → WfG B p g → RMp p M → a.1 ≤ 99 → RQ g S n a M →
    (∀ M', RQ g S n (plN p f g (fTn S n) n a) M' → FQ M M' → Pop Q n M') → WX mi_M_findPlan 5 Q 92 [some (.ref 37), some (.int (nI n)), some (.int (nI 0)), none, none, none] [] M := by
  intro f
  induction f with
  | zero =>
    intro g S n a M Q hf hn hg hm ha hr hK
    have h0 : frN p g = 0 := by omega
    refine wx_leafM hp h0 (by omega) hg hm ha hr (fun M' r1 r2 => hK M' ?_ r2)
    show RQ g S n (if frN p g = 0 then leafA g (fTn S n) n a else a) M'
    rw [if_pos h0]
    exact r1
  | succ f ih =>
    intro g S n a M Q hf hn hg hm ha hr hK
    by_cases h0 : frN p g = 0
    · refine wx_leafM hp h0 (by omega) hg hm ha hr (fun M' r1 r2 => hK M' ?_ r2)
      show RQ g S n (if frN p g = 0 then leafA g (fTn S n) n a else _) M'
      rw [if_pos h0]
      exact r1
    · have eR : plN p (f + 1) g (fTn S n) n a = kdN (chd p (plN p f) g (fTn S n) n) 4 a := by
        show (if frN p g = 0 then leafA g (fTn S n) n a else kdN (chd p (plN p f) g (fTn S n) n) 4 a) = _
        rw [if_neg h0]
      have hk := (frL_of h0).1
      have kids : ∀ m z, z + m = 4 → ∀ (a' : Acc) (M' : Mem), a'.1 ≤ 99 → RQ g S n a' M' → FQ M M' → kdN (chd p (plN p f) g (fTn S n) n) m a' = plN p (f + 1) g (fTn S n) n a →
          WX mi_M_findPlan 5 Q 249 [some (.ref 37), some (.int (nI n)), some (.int (nI z)), some (.int (sI (fre p g))), some (.int 1), some (.int (nI (frL p g)))] [] M' := by
        intro m
        induction m with
        | zero =>
          intro z hz a' M' ha' hr' hf' he
          have he : a' = plN p (f + 1) g (fTn S n) n a := he
          exact pop_1 (hK M' (by rw [← he]; exact hr') hf') (by omega) _ _ _ (by rw [show z = 4 by omega]; decide)
        | succ m ihm =>
          intro z hz a' M' ha' hr' hf' he
          have hm' := hm.fq hf'
          have hz4 : z < 4 := by omega
          have he : kdN (chd p (plN p f) g (fTn S n) n) m (chd p (plN p f) g (fTn S n) n (3 - m) a') = plN p (f + 1) g (fTn S n) n a := he
          rw [show 3 - m = z by omega] at he
          by_cases ho : okZ p g z
          · rw [chd_t ho, ← fTn_psh S n (frL p g) z] at he
            have efr := frN_putc (t := true) hz4 hk ho.2
            have hsz : 1 ≤ szC z := by unfold szC; split <;> (try split) <;> omega
            refine wx_forthM hB hp hz4 hk (by omega) hg hm' hr' ho (fun M2 r1 r2 => ?_)
            have f2 := hf'.trans r2
            refine ih _ (pshS S n (frL p g) z) (n + 1) a' M2 Q (by omega) (by omega) (wfg_putc hg ho.2) (hm.fq f2) ha' r1 (fun M3 r3 r4 => ?_)
            have f3 := f2.trans r4
            have hle : (plN p f (putc (16 * z + frL p g) true g) (fTn (pshS S n (frL p g) z) (n + 1)) (n + 1) a').1 ≤ 99 := Nat.le_trans (pl_bd _ _ _ _ _) ha'
            refine wx_backP hp hz4 hk (by omega) (hm.fq f3) ho r3 (fun M4 r5 r6 => ?_)
            have f4 := f3.trans r6
            refine wx_headM hp h0 (by omega) hg (hm.fq f4) hle r5 (ihm (z + 1) (by omega) _ M4 hle r5 f4 he) (fun c => ?_)
            rw [kd_le h0 c m] at he
            exact hK M4 (by rw [← he]; exact r5) f4
          · rw [chd_f ho] at he
            refine wx_skipM hB hp hz4 hk hg hm' hr' ho ?_
            rw [nI_1]
            exact ihm (z + 1) (by omega) a' M' ha' hr' hf' he
      refine wx_headM hp h0 (by omega) hg hm ha hr (kids 4 0 rfl a M ha hr (FQ.refl M) eR.symm) (fun c => ?_)
      rw [kd_le h0 c 4] at eR
      exact hK M (by rw [eR]; exact hr) (FQ.refl M)
