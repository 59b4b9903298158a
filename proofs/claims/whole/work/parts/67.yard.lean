/-! ===== yard: the model's, whole; both ===== -/
def OutB (Q : Option Value → Mem → Prop) (M : Mem) (r : Nat ⊕ (Nat × Dr)) : Prop := (∀ e M', r = .inl e → e ≤ 150 → FDm M M' → Q (some (.int (-10 - nI e))) M') ∧ (∀ i' d' M', r = .inr (i', d') → RDm d' M' → FDm M M' → WX mi_M_takeDraft 1 (fun rv M'' => WX mi_M_yard 6 Q 113 [some (.ref 37), some (.int (nI i')), none] (rv.toList ++ []) M'') 0 [some (.ref 37), none] [] M')
theorem end_M {e : Nat} {x : Int32} {M : Mem} {Q : Option Value → Mem → Prop} (he : e ≤ 150) (h : M.1 37 17 = nI e) (hQ : Q (some (.int (-10 - nI e))) M) : WX mi_M_yard 6 Q 21 [some (.ref 37), some (.int x), none] [] M := by
  have n9 : ¬ M.1 37 17 = -9 := by rw [h]; exact fnine he
  exact sg_M_yard_37_21 M _ (fun _ c => absurd c n9) (fun _ _ => by rw [h]; exact hQ) (fun c => absurd c n9) (fun c => absurd c n9) (fun c => absurd c n9)
theorem all_M {t : List Nat} (ht : Txt t) {M0 : Mem} {Q : Option Value → Mem → Prop} : ∀ (f i P : Nat) (d : Dr) (M : Mem), f + i = 151 → 2 * i ≤ P → P ≤ t.length → WfD d → (i = 0 → pR d.1 = 0 ∧ ∀ k, pL d.1 k = false ∧ pD d.1 k = false) → RMt t M → TM t P M → M.1 37 17 = -9 → RDm d M → FDm M0 M → OutB Q M0 (parF t f i P d) →
    WX mi_M_yard 6 Q 21 [some (.ref 37), some (.int (nI i)), none] [] M := by
  have hl := ht.1
  intro f
  induction f with
  | zero => intro i P d M a1 a2 a3; omega
  | succ f ih =>
    intro i P d M a1 a2 a3 hw h0 hr hm h9 hd hf hQ
    have hQ : OutB Q M0 (if tkK t P = 0 then Sum.inr (i, d) else match (if tkK t P = 1 then tkV t P else none) with
      | none => Sum.inl (tkS t P)
      | some c => if mayF c i d = true then (match itmF t c (tkE t P) d with
        | .inl e => Sum.inl e
        | .inr (P', d') => if tkK t P' = 3 then parF t f (i + 1) (tkE t P') d' else .inl (tkS t P')) else .inl (tkS t P)) := hQ
    have sS := tkS_le (t := t) a3
    obtain ⟨s3, s2, s1, s4⟩ := mS_all t P
    rw [← hm.2.2.1] at s3 s2 s1 s4
    refine sg_M_yard_37_21 M _ (fun c => absurd h9 c) (fun c => absurd h9 c) (fun _ c _ => ?_) (fun _ _ c => absurd h9 c) (fun _ c => ?_)
    · rw [s3] at c
      rw [if_pos c] at hQ
      exact hQ.2 i d M rfl hd hf
    · rw [s3] at c
      rw [if_neg c] at hQ
      have bad : (if tkK t P = 1 then tkV t P else none) = none ∨ (∃ c, (if tkK t P = 1 then tkV t P else none) = some c ∧ ¬ mayF c i d = true) → ∀ y, WX mi_M_due 3 (fun rv M' => WX mi_M_yard 6 Q 53 [some (.ref 37), some (.int (nI i)), some (.int y)] (rv.toList ++ []) M') 0 [some (.ref 37), some (.int 0), none] [] M := by
        intro h y
        have e17 : (wr M 37 17 (nI (tkS t P))).1 37 17 = nI (tkS t P) := by rw [upd_row, if_pos rfl]
        refine due_0 hm h9 ?_
        refine sg_M_yard_37_53 _ _ _ _ (fun _ => ?_) (fun c2 => absurd c2 (by rw [e17]; exact fnine (by omega)))
        refine end_M (by omega) e17 ?_
        refine hQ.1 (tkS t P) _ ?_ (by omega) (hf.s7 ⟨by decide, by decide⟩ _)
        rcases h with h | ⟨v, h, h2⟩
        · rw [h]
        · rw [h]
          dsimp only
          rw [if_neg h2]
      rcases s4 with h | ⟨k1, v, hv, e⟩
      · have hz : z_M_mayBe_37 M (M.1 37 15) (nI i) = 0 := may_0 h
        rw [hz]
        refine bad (Or.inl ?_) _
        by_cases k1 : tkK t P = 1
        · rw [if_pos k1]
          cases hv : tkV t P with
          | none => rfl
          | some v =>
            exfalso
            have hc := tkV_w k1 hv
            have e : M.1 37 15 = nI v := by rw [hm.2.2.1, k1, hv]; rfl
            rw [e] at h
            have n : ∀ l, l < 97 → ¬ nI v = nI l := fun l hl q => by
              have := (nI_eq (by omega) (by omega)).mp q
              omega
            rcases h with h | h | h | h
            · exact n 1 (by decide) h
            · exact n 2 (by decide) h
            · exact n 3 (by decide) h
            · exact n 4 (by decide) h
        · rw [if_neg k1]
      · have hc := tkV_1 ht k1 hv
        rw [e, may_M hw hd hc (by omega)]
        have eS : (if tkK t P = 1 then tkV t P else none) = some v := by rw [if_pos k1, hv]
        cases m : mayF v i d with
        | false => exact bad (Or.inr ⟨v, eS, by rw [m]; decide⟩) _
        | true =>
          rw [eS] at hQ
          dsimp only at hQ
          rw [if_pos m] at hQ
          have g := tkE_gt c
          have gS := tkS_ge t P
          refine due_1 ht hr hm h9 a3 (fun M1 b1 b2 => ?_)
          have h91 : M1.1 37 17 = -9 := by rw [b2.2.1 17 (by decide)]; exact h9
          have f1 := hf.trans b2.fd
          refine sg_M_yard_37_53 M1 _ _ _ (fun c2 => absurd h91 c2) (fun _ => ?_)
          refine read_M ht hw (fun q => (h0 q).1) m (hr.ft b2) b1 h91 g.2 (hd.ft b2) ⟨fun e2 M2 c1 c2 c3 => ?_, fun P2 d2 M2 c1 c2 c3 c4 c5 => ?_⟩
          · have hle := itm_e c1 g.2
            rw [c1] at hQ
            have n9 : ¬ M2.1 37 17 = -9 := by rw [c2]; exact fnine (by omega)
            have fin := hQ.1 e2 M2 rfl (by omega) (f1.trans c3)
            exact sg_M_yard_37_68 M2 _ _ (fun _ => due_x n9 (sg_M_yard_37_85 M2 _ _ _ (end_M (by omega) c2 fin))) (fun _ => due_x n9 (sg_M_yard_37_85 M2 _ _ _ (end_M (by omega) c2 fin)))
          · rw [c1] at hQ
            dsimp only at hQ
            obtain ⟨w1, w2, w3⟩ := itm_ok c1 m hw h0 g.2
            have f2 := f1.trans c5
            have hr2 := (hr.ft b2).fd c5
            have k3 := (mS_all t P2).2.1
            rw [← c2.2.2.1] at k3
            have sS2 := tkS_le (t := t) w3
            refine sg_M_yard_37_68 M2 _ _ (fun q => ?_) (fun q => ?_)
            · rw [k3] at q
              rw [if_neg q] at hQ
              have e17 : (wr M2 37 17 (nI (tkS t P2))).1 37 17 = nI (tkS t P2) := by rw [upd_row, if_pos rfl]
              refine due_0 c2 c3 ?_
              refine sg_M_yard_37_85 _ _ _ _ (end_M (e := tkS t P2) (by omega) e17 ?_)
              exact hQ.1 (tkS t P2) _ rfl (by omega) (f2.s7 ⟨by decide, by decide⟩ _)
            · rw [k3] at q
              rw [if_pos q] at hQ
              refine due_1 ht hr2 c2 c3 w3 (fun M3 e1 e2 => ?_)
              refine sg_M_yard_37_85 M3 _ _ _ ?_
              rw [nI_1]
              have g3 := tkE_gt (t := t) (P := P2) (by omega)
              have gS3 := tkS_ge t P2
              exact ih (i + 1) (tkE t P2) d2 M3 (by omega) (by omega) g3.2 w1 (fun q => absurd q (by omega)) (hr2.ft e2) e1 (by rw [e2.2.1 17 (by decide)]; exact c3) (c4.ft e2) (f2.trans e2.fd) hQ
theorem wx_plain {M : Mem} {Q : Option Value → Mem → Prop} (hQ : ∀ M', RDm drN M' → M'.1 37 13 = M.1 37 13 → M'.1 37 17 = M.1 37 17 → FDm M M' → Q none M') : WX mi_M_plain 1 Q 0 [some (.ref 37), none] [] M := by
  refine sg_M_plain_37_0 M ?_
  have loop : ∀ u, u ≤ 4 → ∀ M1 : Mem, (M1.1 39 1 = 0 ∧ M1.1 40 1 = 0 ∧ M1.1 43 1 = 0 ∧ M1.1 41 1 = 0 ∧ M1.1 42 1 = 0) → (∀ z, z < u → M1.1 45 z = 4) → (M1.1 37 10 = 0 ∧ M1.1 37 11 = 0 ∧ M1.1 37 12 = 0) → M1.1 37 13 = M.1 37 13 → M1.1 37 17 = M.1 37 17 → FDm M M1 → WX mi_M_plain 1 Q 52 [some (.ref 37), some (.int (nI u))] [] M1 := by
    have g4 : (4 : Int32) ≤ nI 4 := by decide
    refine downN 4 (fun M1 e1 e2 e3 e4 e5 e6 => ?_) (fun u hu ih M1 e1 e2 e3 e4 e5 e6 => ?_)
    · obtain ⟨a1, a2, a3, a4, a5⟩ := e1
      obtain ⟨b1, b2, b3⟩ := e3
      refine sg_M_plain_37_52 M1 _ (fun _ => hQ M1 ⟨⟨a1, a2, a3, by rw [a4]; exact sI_none.symm, by rw [a5]; exact sI_none.symm⟩, fun k hk ht => ?_, fun z hz => e2 z hz, b2, b3, b1⟩ e4 e5 e6) (fun c => absurd g4 c) (fun c => absurd g4 c)
      exfalso
      unfold thr at ht
      have : ¬ k % 4 < pW drN.1 := Nat.not_lt_zero _
      rw [decide_eq_false this, Bool.false_and] at ht
      cases ht
    · refine sg_M_plain_37_52 M1 _ (fun c => absurd c (Int32.not_le.mpr (nI_lt (b := 4) hu (by decide)))) (fun _ => vp_in_nI hu (by decide)) (fun _ => ?_)
      rw [nI_1, nI_clamp (by omega)]
      refine ih _ ⟨by rw [wr_ne _ (by decide)]; exact e1.1, by rw [wr_ne _ (by decide)]; exact e1.2.1, by rw [wr_ne _ (by decide)]; exact e1.2.2.1, by rw [wr_ne _ (by decide)]; exact e1.2.2.2.1, by rw [wr_ne _ (by decide)]; exact e1.2.2.2.2⟩ (fun k hk => ?_) (by rw [wr_ne _ (by decide)]; exact e3) (by rw [wr_ne _ (by decide)]; exact e4) (by rw [wr_ne _ (by decide)]; exact e5) (e6.s4 ⟨by decide, by decide⟩ _ _)
      rw [upd_row]
      by_cases q : k = u
      · rw [if_pos q]
      · rw [if_neg q]; exact e2 k (by omega)
  refine loop 0 (by decide) _ ⟨by simp [wr], by simp [wr], by simp [wr], by simp [wr], by simp [wr]⟩ (fun k hk => absurd hk (Nat.not_lt_zero k)) ⟨by simp [wr], by simp [wr], by simp [wr]⟩ (by simp [wr]) (by simp [wr]) ((((((((((FDm.refl M).s1 ⟨by decide, by decide⟩ _).s1 ⟨by decide, by decide⟩ _).s1 ⟨by decide, by decide⟩ _).s1 ⟨by decide, by decide⟩ _).s1 ⟨by decide, by decide⟩ _)).s7 ⟨by decide, by decide⟩ _).s7 ⟨by decide, by decide⟩ _).s7 ⟨by decide, by decide⟩ _)
theorem wx_takeDraft {M : Mem} {Q : Option Value → Mem → Prop} (hQ : ∀ M', (∀ q, 39 ≤ q → q ≤ 43 → M'.1 q 0 = M.1 q 1) → (∀ k, k < 16 → M'.1 46 k = M.1 44 k) → (∀ k, k < 16 → M'.1 46 (16 + k) = -9) → (∀ z, z < 4 → M'.1 46 (32 + z) = M.1 45 z) → (M'.1 46 36 = 0 ∧ M'.1 46 37 = 0 ∧ M'.1 46 38 = 0 ∧ M'.1 37 29 = 0 ∧ M'.1 47 0 = 0 ∧ M'.1 47 1 = 0) → (∀ q, q < 37 ∨ 47 < q → M'.1 q = M.1 q) → M'.2 = M.2 → Q none M') : WX mi_M_takeDraft 1 Q 0 [some (.ref 37), none] [] M := by
  refine sg_M_takeDraft_37_0 M ?_
  have e16 : ∀ k, (16 : Int32) + nI k = nI (16 + k) := fun k => by rw [show (16 : Int32) = nI 16 from rfl, nI_add]
  have e32 : ∀ k, (32 : Int32) + nI k = nI (32 + k) := fun k => by rw [show (32 : Int32) = nI 32 from rfl, nI_add]
  have n0 : vp_nar .boolean 0 = 0 := by decide
  have loop2 : ∀ u, u ≤ 4 → ∀ M1 : Mem, (∀ q, 39 ≤ q → q ≤ 43 → M1.1 q 0 = M.1 q 1) → (∀ k, k < 16 → M1.1 46 k = M.1 44 k) → (∀ k, k < 16 → M1.1 46 (16 + k) = -9) → (∀ z, z < u → M1.1 46 (32 + z) = M.1 45 z) → (∀ q, q < 37 ∨ 47 < q ∨ q = 45 → M1.1 q = M.1 q) → M1.2 = M.2 → WX mi_M_takeDraft 1 Q 99 [some (.ref 37), some (.int (nI u))] [] M1 := by
    have g4 : (4 : Int32) ≤ nI 4 := by decide
    refine downN 4 (fun M1 e1 e2 e3 e4 e5 e6 => ?_) (fun u hu ih M1 e1 e2 e3 e4 e5 e6 => ?_)
    · refine sg_M_takeDraft_37_99 M1 _ (fun _ => ?_) (fun c => absurd g4 c) (fun c => absurd g4 c) (fun c => absurd g4 c)
      rw [n0]
      refine hQ _ (fun q a b => ?_) (fun k hk => ?_) (fun k hk => ?_) (fun z hz => ?_) ⟨by simp [wr], by simp [wr], by simp [wr], by simp [wr], by simp [wr], by simp [wr]⟩ (fun q hq => ?_) e6
      · rw [wr_ne _ (by omega), wr_ne _ (by omega), wr_ne _ (by omega), wr_ne _ (by omega), wr_ne _ (by omega), wr_ne _ (by omega)]; exact e1 q a b
      · rw [wr_ne _ (by decide), wr_ne _ (by decide), wr_ne _ (by decide), upd_row, if_neg (by omega), upd_row, if_neg (by omega), upd_row, if_neg (by omega)]; exact e2 k hk
      · rw [wr_ne _ (by decide), wr_ne _ (by decide), wr_ne _ (by decide), upd_row, if_neg (by omega), upd_row, if_neg (by omega), upd_row, if_neg (by omega)]; exact e3 k hk
      · rw [wr_ne _ (by decide), wr_ne _ (by decide), wr_ne _ (by decide), upd_row, if_neg (by omega), upd_row, if_neg (by omega), upd_row, if_neg (by omega)]; exact e4 z hz
      · rw [wr_ne _ (by omega), wr_ne _ (by omega), wr_ne _ (by omega), wr_ne _ (by omega), wr_ne _ (by omega), wr_ne _ (by omega)]; exact e5 q (by omega)
    · refine sg_M_takeDraft_37_99 M1 _ (fun c => absurd c (Int32.not_le.mpr (nI_lt (b := 4) hu (by decide)))) (fun _ => vp_in_nI hu (by decide)) (fun _ => by rw [e32]; exact vp_in_nI (by omega) (by decide)) (fun _ => ?_)
      rw [nI_1, e32, nI_clamp (show u < 2 ^ 31 by omega), nI_clamp (show 32 + u < 2 ^ 31 by omega), e5 45 (by decide)]
      refine ih _ (fun q a b => by rw [wr_ne _ (by omega)]; exact e1 q a b) (fun k hk => by rw [upd_row, if_neg (by omega)]; exact e2 k hk) (fun k hk => by rw [upd_row, if_neg (by omega)]; exact e3 k hk) (fun z hz => ?_) (fun q hq => by rw [wr_ne _ (by omega)]; exact e5 q hq) e6
      rw [upd_row]
      by_cases q : z = u
      · rw [if_pos (by omega), q]
      · rw [if_neg (by omega)]; exact e4 z (by omega)
  have loop1 : ∀ u, u ≤ 16 → ∀ M1 : Mem, (∀ q, 39 ≤ q → q ≤ 43 → M1.1 q 0 = M.1 q 1) → (∀ k, k < u → M1.1 46 k = M.1 44 k) → (∀ k, k < u → M1.1 46 (16 + k) = -9) → (∀ q, q < 37 ∨ 47 < q ∨ q = 45 ∨ q = 44 → M1.1 q = M.1 q) → M1.2 = M.2 → WX mi_M_takeDraft 1 Q 62 [some (.ref 37), some (.int (nI u))] [] M1 := by
    refine downN 16 (fun M1 e1 e2 e3 e5 e6 => ?_) (fun u hu ih M1 e1 e2 e3 e5 e6 => ?_)
    · refine sg_M_takeDraft_37_62 M1 _ (fun _ => ?_) (fun c => absurd ge16 c) (fun c => absurd ge16 c) (fun c => absurd ge16 c) (fun c => absurd ge16 c)
      exact loop2 0 (by decide) M1 e1 e2 e3 (fun z hz => absurd hz (Nat.not_lt_zero z)) (fun q hq => e5 q (by omega)) e6
    · refine sg_M_takeDraft_37_62 M1 _ (fun c => absurd c (lt16 hu)) (fun _ => vp_in_nI hu (by decide)) (fun _ => vp_in_nI (by omega) (by decide)) (fun _ => by rw [e16]; exact vp_in_nI (by omega) (by decide)) (fun _ => ?_)
      rw [nI_1, e16, nI_clamp (show u < 2 ^ 31 by omega), nI_clamp (show 16 + u < 2 ^ 31 by omega), e5 44 (by decide)]
      refine ih _ (fun q a b => by rw [wr_ne _ (by omega), wr_ne _ (by omega)]; exact e1 q a b) (fun k hk => ?_) (fun k hk => ?_) (fun q hq => by rw [wr_ne _ (by omega), wr_ne _ (by omega)]; exact e5 q hq) e6
      · rw [upd_row, if_neg (by omega), upd_row]
        by_cases q : k = u
        · rw [if_pos q, q]
        · rw [if_neg q]; exact e2 k (by omega)
      · rw [upd_row]
        by_cases q : k = u
        · rw [if_pos (by omega)]
        · rw [if_neg (by omega), upd_row, if_neg (by omega)]; exact e3 k (by omega)
  refine loop1 0 (by decide) _ (fun q a b => ?_) (fun k hk => absurd hk (Nat.not_lt_zero k)) (fun k hk => absurd hk (Nat.not_lt_zero k)) (fun q hq => ?_) rfl
  · have : q = 39 ∨ q = 40 ∨ q = 41 ∨ q = 42 ∨ q = 43 := by omega
    rcases this with rfl | rfl | rfl | rfl | rfl <;> simp [wr]
  · rw [wr_ne _ (by omega), wr_ne _ (by omega), wr_ne _ (by omega), wr_ne _ (by omega), wr_ne _ (by omega)]
theorem RM.fdm {s : Sg} {M M' : Mem} (h : RM s M) (hf : FDm M M') : RM s M' := by
  obtain ⟨h1, h2, h3, h4, h5, h6⟩ := h
  refine ⟨h1.fd hf, ?_, ?_, ?_, ?_, by rw [hf.2.2.2]; exact h6⟩
  · unfold RMp at h2 ⊢
    rw [hf.2.1 39 (by decide) (by decide), hf.2.1 40 (by decide) (by decide), hf.2.1 41 (by decide) (by decide), hf.2.1 42 (by decide) (by decide), hf.2.1 43 (by decide) (by decide)]
    exact h2
  · rw [hf.1 46 (by decide) (by decide)]; exact h3
  · unfold RMi at h4 ⊢
    rw [hf.1 46 (by decide) (by decide), hf.1 47 (by decide) (by decide)]; exact h4
  · unfold RMs at h5 ⊢
    rw [hf.2.2.1 29 (by decide), hf.1 55 (by decide) (by decide)]; exact h5
theorem taken_M {d : Dr} {tr : Int64} {M M' : Mem} (hd : RDm d M) (a1 : ∀ q, 39 ≤ q → q ≤ 43 → M'.1 q 0 = M.1 q 1) (a2 : ∀ k, k < 16 → M'.1 46 k = M.1 44 k) (a3 : ∀ k, k < 16 → M'.1 46 (16 + k) = -9) (a4 : ∀ z, z < 4 → M'.1 46 (32 + z) = M.1 45 z) (a5 : M'.1 46 36 = 0 ∧ M'.1 46 37 = 0 ∧ M'.1 46 38 = 0 ∧ M'.1 37 29 = 0 ∧ M'.1 47 0 = 0 ∧ M'.1 47 1 = 0) (a6 : M'.2 37 = tr) : RM (sgD d tr) (wr M' 37 2 0) := by
  obtain ⟨b1, b2, b3, b4, b5, b6⟩ := a5
  obtain ⟨⟨c1, c2, c3, c4, c5⟩, d1, d2, -⟩ := hd
  refine ⟨⟨by rw [upd_row, if_pos rfl]; rfl, fun j c hj => ?_⟩, ⟨?_, ?_, ?_, ?_, ?_⟩, ⟨⟨fun k hk ht => ?_, fun k hk => ?_, fun z hz => ?_, ?_, ?_⟩, ?_, fun j e hj => ?_⟩, ⟨?_, ?_, fun gh hg => (by cases hg), fun gh hg => (by cases hg)⟩, ⟨?_, fun j c hj => ?_⟩, a6⟩
  · have hj : ([] : List Nat)[j]? = some c := hj
    rw [List.getElem?_nil] at hj; cases hj
  · rw [wr_ne _ (by decide), a1 39 (by decide) (by decide)]; exact c1
  · rw [wr_ne _ (by decide), a1 40 (by decide) (by decide)]; exact c2
  · rw [wr_ne _ (by decide), a1 43 (by decide) (by decide)]; exact c3
  · rw [wr_ne _ (by decide), a1 41 (by decide) (by decide)]; exact c4
  · rw [wr_ne _ (by decide), a1 42 (by decide) (by decide)]; exact c5
  · rw [wr_ne _ (by decide), Nat.zero_add, a2 k hk]; exact d1 k hk ht
  · rw [wr_ne _ (by decide), Nat.zero_add, a3 k hk]; rfl
  · rw [wr_ne _ (by decide), Nat.zero_add, a4 z hz]; exact d2 z hz
  · rw [wr_ne _ (by decide), Nat.zero_add, b1]; exact sI_none.symm
  · rw [wr_ne _ (by decide), Nat.zero_add, b2]; rfl
  · rw [wr_ne _ (by decide), Nat.zero_add, b3]; rfl
  · have hj : ([] : Hs)[j]? = some e := hj
    rw [List.getElem?_nil] at hj; cases hj
  · rw [wr_ne _ (by decide), b5]; rfl
  · rw [wr_ne _ (by decide), b6]; rfl
  · rw [upd_row, if_neg (by decide), b4]; rfl
  · have hj : ([] : List Nat)[j]? = some c := hj
    rw [List.getElem?_nil] at hj; cases hj
theorem yard_M {t : List Nat} {s : Sg} {M : Mem} {Q : Option Value → Mem → Prop} (ht : Txt t) (hs : s.1 = t) (hm : RM s M) (h1 : ∀ e M', parF t 151 0 0 drN = .inl e → RM s M' → FrM M M' → Q (some (.int (-10 - nI e))) M') (h2 : ∀ i' d' M', parF t 151 0 0 drN = .inr (i', d') → RM (sgD d' s.2.2.2.2.2) M' → FrM M M' → Q (some (.int (nI i'))) M') : WX mi_M_yard 6 Q 0 [some (.ref 37), none, none] [] M := by
  refine sg_M_yard_37_0 M ?_
  refine wx_plain (fun M1 rd e13 e17 f => ?_)
  have f1 : FDm M M1 := (((FDm.refl M).s7 (k := 13) ⟨by decide, by decide⟩ _).s7 (k := 17) ⟨by decide, by decide⟩ _).trans f
  have hr : RMt t M := by rw [← hs]; exact hm.1
  have e13' : M1.1 37 13 = nI 0 := by rw [e13, upd_row, if_neg (by decide), upd_row, if_pos rfl]; rfl
  have e17' : M1.1 37 17 = -9 := by rw [e17, upd_row, if_pos rfl]
  refine sg_M_yard_37_15 M1 ?_
  refine wx_step ht (hr.fd f1) e13' (Nat.zero_le _) (fun M2 b1 b2 => ?_)
  have f2 := f1.trans b2.fd
  refine all_M ht 151 0 0 drN M2 rfl (Nat.le_refl _) (Nat.zero_le _) wfd_0 (fun _ => ⟨rfl, fun _ => ⟨rfl, rfl⟩⟩) (hr.fd f2) b1 (by rw [b2.2.1 17 (by decide)]; exact e17') (rd.ft b2) f2 ⟨fun e M3 he hle f3 => ?_, fun i' d' M3 he rd3 f3 => ?_⟩
  · exact h1 e M3 he (hm.fdm f3) ⟨fun q hq => f3.1 q (by omega) (by omega), by rw [f3.2.2.2]⟩
  · refine wx_takeDraft (fun M4 a1 a2 a3 a4 a5 a6 a7 => ?_)
    refine sg_M_yard_37_113 M4 _ ?_
    have e2 : (wr M4 37 2 0).2 = M.2 := by
      show M4.2 = M.2
      rw [a7, f3.2.2.2]
    refine h2 i' d' _ he (taken_M rd3 a1 a2 a3 a4 a5 ?_) ⟨fun q hq => ?_, by rw [e2]⟩
    · have : M4.2 = M.2 := e2
      rw [this]
      exact hm.2.2.2.2.2
    · rw [wr_ne _ (by omega), a6 q (by omega)]
      exact f3.1 q (by omega) (by omega)
theorem a_yard : Agr Inv mi_C_yard mi_M_yard 7 6 [] := by
  refine agr_of (fun i s M hw hc hm => ?_)
  have ht : Txt s.1 := hw.1
  cases he : parF s.1 151 0 0 drN with
  | inl e =>
    refine ⟨-10 - nI e, s, hw.up (by omega), fun Q hQ => ?_, fun M1 Q hm1 hQ => ?_⟩
    · refine yard_C ht rfl hc (fun e' M' h a b => ?_) (fun i' d' M' h => ?_)
      · rw [he] at h; cases h; exact hQ M' a b
      · rw [he] at h; cases h
    · refine yard_M ht rfl hm1 (fun e' M' h a b => ?_) (fun i' d' M' h => ?_)
      · rw [he] at h; cases h; exact hQ M' a b
      · rw [he] at h; cases h
  | inr r =>
    obtain ⟨n, d⟩ := r
    have hd := (par_ok 151 0 0 drN n d he wfd_0 (fun _ => ⟨rfl, fun _ => ⟨rfl, rfl⟩⟩) (Nat.zero_le _) (Nat.le_refl _)).1
    refine ⟨nI n, sgD d s.2.2.2.2.2, sgD_wf (by omega) hd, fun Q hQ => ?_, fun M1 Q hm1 hQ => ?_⟩
    · refine yard_C ht rfl hc (fun e' M' h => ?_) (fun i' d' M' h a b => ?_)
      · rw [he] at h; cases h
      · rw [he] at h; cases h; exact hQ M' a b
    · refine yard_M ht rfl hm1 (fun e' M' h => ?_) (fun i' d' M' h a b => ?_)
      · rw [he] at h; cases h
      · rw [he] at h; cases h; exact hQ M' a b
