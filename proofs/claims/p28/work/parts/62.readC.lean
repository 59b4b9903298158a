/-! ===== yard: the class reads; printed by wip/gen/p62.py ===== -/
def RDc (d : Dr) (M : Mem) : Prop := (M.1 3 0 = nI (pW d.1) ∧ M.1 3 1 = nI (pR d.1) ∧ M.1 3 2 = nI (pO d.1) ∧ M.1 3 3 = sI (pL d.1) ∧ M.1 3 4 = sI (pD d.1)) ∧ (∀ k, k < 16 → M.1 4 k = nI (d.2.1 k)) ∧ (∀ z, z < 4 → M.1 5 z = nI (d.2.2.1 z)) ∧ (M.1 1 7 = bI d.2.2.2.1 ∧ M.1 1 8 = bI d.2.2.2.2.1 ∧ M.1 1 9 = bI d.2.2.2.2.2)
def FD (M M' : Mem) : Prop := (∀ q, q ≠ 1 → q ≠ 3 → q ≠ 4 → q ≠ 5 → M'.1 q = M.1 q) ∧ (∀ k, k < 3 → M'.1 1 k = M.1 1 k) ∧ M'.2 = M.2
theorem FD.refl (M : Mem) : FD M M := ⟨fun _ _ _ _ _ => rfl, fun _ _ => rfl, rfl⟩
theorem FD.trans {M M1 M2 : Mem} (h : FD M M1) (h' : FD M1 M2) : FD M M2 := ⟨fun q a b c e => by rw [h'.1 q a b c e, h.1 q a b c e], fun k hk => by rw [h'.2.1 k hk, h.2.1 k hk], by rw [h'.2.2, h.2.2]⟩
theorem FT1.fd {M M' : Mem} (h : FT1 M M') : FD M M' := ⟨fun q a _ _ _ => h.1 q a, fun k hk => h.2.1 k (by omega), h.2.2⟩
theorem FD.s1 {M M1 : Mem} (h : FD M M1) {k : Nat} (hk : 3 ≤ k) (v : Int32) : FD M (wr M1 1 k v) := ⟨fun q a b c e => by rw [wr_ne _ a]; exact h.1 q a b c e, fun j hj => by rw [upd_row, if_neg (by omega)]; exact h.2.1 j hj, h.2.2⟩
theorem FD.s3 {M M1 : Mem} (h : FD M M1) {r : Nat} (hr : 3 ≤ r ∧ r ≤ 5) (k : Nat) (v : Int32) : FD M (wr M1 r k v) := ⟨fun q a b c e => by rw [wr_ne _ (by omega)]; exact h.1 q a b c e, fun j hj => by rw [wr_ne _ (by omega)]; exact h.2.1 j hj, h.2.2⟩
theorem RCt.fd {t : List Nat} {M M' : Mem} (h : RCt t M) (hf : FD M M') : RCt t M' := ⟨by rw [hf.2.1 1 (by decide)]; exact h.1, fun j c hj => by rw [hf.1 2 (by decide) (by decide) (by decide) (by decide)]; exact h.2 j c hj⟩
theorem RDc.ft {d : Dr} {M M' : Mem} (h : RDc d M) (hf : FT1 M M') : RDc d M' := by
  obtain ⟨⟨a1, a2, a3, a4, a5⟩, b, c, e1, e2, e3⟩ := h
  refine ⟨⟨?_, ?_, ?_, ?_, ?_⟩, fun k hk => ?_, fun z hz => ?_, ?_, ?_, ?_⟩
  · rw [hf.1 3 (by decide)]; exact a1
  · rw [hf.1 3 (by decide)]; exact a2
  · rw [hf.1 3 (by decide)]; exact a3
  · rw [hf.1 3 (by decide)]; exact a4
  · rw [hf.1 3 (by decide)]; exact a5
  · rw [hf.1 4 (by decide)]; exact b k hk
  · rw [hf.1 5 (by decide)]; exact c z hz
  · rw [hf.2.1 7 (by decide)]; exact e1
  · rw [hf.2.1 8 (by decide)]; exact e2
  · rw [hf.2.1 9 (by decide)]; exact e3
theorem nm_k {t : List Nat} {P l n : Nat} (h : ¬ tkK t P = 2) : nmF t P l n = none := by
  unfold nmF
  cases tkV t P with
  | none => rfl
  | some v => dsimp only; rw [if_neg (fun q => h q.1)]
theorem nm_v {t : List Nat} {P l n : Nat} (h : tkV t P = none) : nmF t P l n = none := by
  unfold nmF
  rw [h]
theorem nm_of {t : List Nat} {P l n v : Nat} (h : tkV t P = some v) (hk : tkK t P = 2) (h1 : l ≤ v) (h2 : v < n) : nmF t P l n = some v := by
  unfold nmF
  rw [h]
  dsimp only
  rw [if_pos ⟨hk, h1, h2⟩]
theorem nm_no {t : List Nat} {P l n v : Nat} (h : tkV t P = some v) (h1 : ¬ (l ≤ v ∧ v < n)) : nmF t P l n = none := by
  unfold nmF
  rw [h]
  dsimp only
  rw [if_neg (fun q => h1 q.2)]
theorem wx_readNumber {t : List Nat} (ht : Txt t) {P l n : Nat} {lo hi : Int32} {M : Mem} {Q : Option Value → Mem → Prop} (hr : RCt t M) (m3 : M.1 1 3 = nI P) (hP : P ≤ t.length) (hb0 : (-1 : Int32) < lo) (hb : ∀ v, v < 1000 → (nI v < lo ↔ v < l) ∧ (hi < nI v ↔ n ≤ v))
    (h1 : ∀ v M', nmF t P l n = some v → M'.1 1 3 = nI (tkE t P) → M'.1 1 6 = nI v → FT1 M M' → M'.1 1 4 = nI (tkS t P) → Q (some (.int 1)) M') (h2 : ∀ M', nmF t P l n = none → M'.1 1 4 = nI (tkS t P) → FT1 M M' → Q (some (.int 0)) M') : WX mi_R_readNumber 3 Q 0 [some (.ref 1), some (.int lo), some (.int hi)] [] M := by
  refine sg_R_readNumber_1_0 M _ _ ?_
  refine wx_readToken ht hr m3 hP (fun M1 tc ft => ?_)
  obtain ⟨a, b, c, e⟩ := tc
  have hk4 := tkK_le t P
  have k2 : M1.1 1 5 = 2 ↔ tkK t P = 2 := by rw [c]; exact nI_eq (b := 2) (by omega) (by decide)
  refine sg_R_readNumber_1_4 M1 _ _ (fun q => ?_) (fun q q2 => ?_) (fun q q2 q3 => ?_) (fun q q2 q3 => ?_)
  · rw [k2] at q
    exact h2 M1 (nm_k q) b ft
  · rw [k2] at q
    refine h2 M1 ?_ b ft
    cases hv : tkV t P with
    | none => exact nm_v hv
    | some v =>
      rw [e, hv, show eV (some v) = nI v from rfl, (hb v (tkV_lt hv q)).1] at q2
      exact nm_no hv (by omega)
  · rw [k2] at q
    refine h2 M1 ?_ b ft
    cases hv : tkV t P with
    | none => exact nm_v hv
    | some v =>
      rw [e, hv, show eV (some v) = nI v from rfl, (hb v (tkV_lt hv q)).2] at q3
      exact nm_no hv (by omega)
  · rw [k2] at q
    cases hv : tkV t P with
    | none =>
      rw [e, hv] at q2
      exact absurd hb0 q2
    | some v =>
      rw [e, hv, show eV (some v) = nI v from rfl, (hb v (tkV_lt hv q)).1] at q2
      rw [e, hv, show eV (some v) = nI v from rfl, (hb v (tkV_lt hv q)).2] at q3
      exact h1 v M1 (nm_of hv q (by omega) (by omega)) a (by rw [e, hv]; rfl) ft b
theorem bnd_9 : ∀ v, v < 1000 → (nI v < 0 ↔ v < 0) ∧ ((9 : Int32) < nI v ↔ 10 ≤ v) := fun v hv => ⟨⟨fun c => absurd c (by rw [Int32.not_lt]; exact (nI_le_iff (a := 0) (by decide) (by omega)).mpr (Nat.zero_le v)), fun c => by omega⟩, (nI_lt_iff (a := 9) (by decide) (by omega))⟩
theorem bnd_20 : ∀ v, v < 1000 → (nI v < 0 ↔ v < 0) ∧ ((20 : Int32) < nI v ↔ 21 ≤ v) := fun v hv => ⟨(bnd_9 v hv).1, (nI_lt_iff (a := 20) (by decide) (by omega))⟩
theorem bnd_4 : ∀ v, v < 1000 → (nI v < 1 ↔ v < 1) ∧ ((4 : Int32) < nI v ↔ 5 ≤ v) := fun v hv => ⟨nI_lt_iff (b := 1) (by omega) (by decide), (nI_lt_iff (a := 4) (by decide) (by omega))⟩
theorem bnd_m {n : Nat} (hn : n ≤ 4) : ∀ v, v < 1000 → (nI v < 0 ↔ v < 0) ∧ (nI n - 1 < nI v ↔ n ≤ v) := fun v hv => ⟨(bnd_9 v hv).1, by
  rw [← Int32.not_le, le_m1 hn, nI_toInt (by omega)]
  omega⟩
def OutC (Q : Option Value → Mem → Prop) (M : Mem) (r : Nat ⊕ (Nat × Dr)) : Prop := (∀ e M', r = .inl e → M'.1 1 4 = nI e → FD M M' → Q (some (.int 0)) M') ∧ (∀ P' d' M', r = .inr (P', d') → M'.1 1 3 = nI P' → RDc d' M' → FD M M' → Q (some (.int 1)) M')
theorem wdr_C {t : List Nat} (ht : Txt t) {P : Nat} {d : Dr} {M : Mem} {Q : Option Value → Mem → Prop} (hr : RCt t M) (m3 : M.1 1 3 = nI P) (hP : P ≤ t.length) (hd : RDc d M) (hQ : OutC Q M (widF t P d)) : WX mi_R_readWide 4 Q 0 [some (.ref 1)] [] M := by
  refine sg_R_readWide_1_0 M ?_
  refine wx_readNumber (l := 1) (n := 5) ht hr m3 hP (by decide) bnd_4 (fun v M1 e a b f _ => ?_) (fun M1 e a f => ?_)
  · refine sg_R_readWide_1_6 M1 _ (fun _ => ?_) (fun c => absurd c (by decide))
    have hd1 := hd.ft f
    refine hQ.2 (tkE t P) ((v, pR d.1, pL d.1, pD d.1, pO d.1), d.2) _ (by unfold widF; rw [e]) (by rw [wr_ne _ (by decide)]; exact a) ?_ (f.fd.s3 ⟨by decide, by decide⟩ _ _)
    obtain ⟨⟨a1, a2, a3, a4, a5⟩, b', c', e'⟩ := hd1
    rw [b]
    exact ⟨⟨by rw [upd_row, if_pos rfl]; rfl, by rw [upd_row, if_neg (by decide)]; exact a2, by rw [upd_row, if_neg (by decide)]; exact a3, by rw [upd_row, if_neg (by decide)]; exact a4, by rw [upd_row, if_neg (by decide)]; exact a5⟩, fun k hk => by rw [wr_ne _ (by decide)]; exact b' k hk, fun k hk => by rw [wr_ne _ (by decide)]; exact c' k hk, by rw [wr_ne _ (by decide)]; exact e'⟩
  · refine sg_R_readWide_1_6 M1 _ (fun c => absurd rfl c) (fun _ => ?_)
    exact hQ.1 (tkS t P) M1 (by unfold widF; rw [e]) a f.fd
theorem row_C {t : List Nat} (ht : Txt t) {d : Dr} {M0 : Mem} {Q : Option Value → Mem → Prop} (hW : pW d.1 ≤ 4) (hR : pR d.1 < 4) (P0 : Nat) : ∀ n x P H (M : Mem), x + n = pW d.1 → P ≤ t.length → RCt t M → M.1 1 3 = nI P → RDc (d.1, H, d.2.2) M → FD M0 M → rowF t (pR d.1) (pW d.1) 0 P0 d.2.1 = rowF t (pR d.1) n x P H → OutC Q M0 (rwsF t P0 d) →
    WX mi_R_readRow 4 Q 2 [some (.ref 1), some (.int (nI x)), none] [] M := by
  intro n
  induction n with
  | zero =>
    intro x P H M hx hP hr m3 hd hf he hQ
    have hle : M.1 3 0 ≤ nI x := by rw [hd.1.1]; exact (nI_le_iff (by show pW d.1 < 2 ^ 31; omega) (by omega)).mpr (by show pW d.1 ≤ x; omega)
    refine sg_R_readRow_1_2 M _ (fun _ => ?_) (fun c => absurd hle c)
    have he : rowF t (pR d.1) (pW d.1) 0 P0 d.2.1 = .inr (P, H) := he
    refine hQ.2 P ((pW d.1, pR d.1 + 1, pL d.1, pD d.1, pO d.1), H, d.2.2) _ (by unfold rwsF; rw [he]) (by rw [wr_ne _ (by decide)]; exact m3) ?_ (hf.s3 ⟨by decide, by decide⟩ _ _)
    obtain ⟨⟨a1, a2, a3, a4, a5⟩, b', c', e'⟩ := hd
    rw [a2, nI_1]
    exact ⟨⟨by rw [upd_row, if_neg (by decide)]; exact a1, by rw [upd_row, if_pos rfl]; rfl, by rw [upd_row, if_neg (by decide)]; exact a3, by rw [upd_row, if_neg (by decide)]; exact a4, by rw [upd_row, if_neg (by decide)]; exact a5⟩, fun k hk => by rw [wr_ne _ (by decide)]; exact b' k hk, fun k hk => by rw [wr_ne _ (by decide)]; exact c' k hk, by rw [wr_ne _ (by decide)]; exact e'⟩
  | succ n ih =>
    intro x P H M hx hP hr m3 hd hf he hQ
    have nle : ¬ M.1 3 0 ≤ nI x := by
      rw [hd.1.1]
      intro c
      have := (nI_le_iff (by show pW d.1 < 2 ^ 31; omega) (by omega)).mp c
      have : pW d.1 ≤ x := this
      omega
    have he : rowF t (pR d.1) (pW d.1) 0 P0 d.2.1 = (match nmF t P 0 10 with | none => .inl (tkS t P) | some v => rowF t (pR d.1) n (x + 1) (tkE t P) (updN H (4 * pR d.1 + x) v)) := he
    have ek : z_C_numberOf (nI x) (M.1 3 1) = nI (4 * pR d.1 + x) := by
      rw [hd.1.2.1]
      have := numOf (4 * pR d.1 + x) (by omega)
      rw [show (4 * pR d.1 + x) % 4 = x by omega, show (4 * pR d.1 + x) / 4 = pR d.1 by omega] at this
      exact this
    refine sg_R_readRow_1_2 M _ (fun c => absurd c nle) (fun _ => ?_)
    refine wx_readNumber (l := 0) (n := 10) ht hr m3 hP (by decide) bnd_9 (fun v M1 e a b f _ => ?_) (fun M1 e a f => ?_)
    · rw [e] at he
      have hd1 := hd.ft f
      rw [ek]
      refine sg_R_readRow_1_32 M1 _ _ _ (fun c => absurd c (by decide)) (fun _ _ => vp_in_nI (by omega) (by decide)) (fun _ _ => ?_) (fun _ c => absurd c (isNum_of_in (vp_in_nI (by omega) (by decide))))
      rw [nI_1, b, nI_clamp (by omega)]
      have s := nm_step e
      have f1 : FD M1 (wr M1 4 (4 * pR d.1 + x) (nI v)) := (FD.refl M1).s3 ⟨by decide, by decide⟩ _ _
      refine ih (x + 1) (tkE t P) (updN H (4 * pR d.1 + x) v) _ (by omega) s.2 ((hr.ft f).fd f1) (by rw [wr_ne _ (by decide)]; exact a) ?_ (hf.trans (f.fd.trans f1)) he hQ
      obtain ⟨a', b', c', e'⟩ := hd1
      refine ⟨by rw [wr_ne _ (by decide)]; exact a', fun k hk => ?_, fun k hk => by rw [wr_ne _ (by decide)]; exact c' k hk, by rw [wr_ne _ (by decide)]; exact e'⟩
      rw [upd_row]
      show _ = nI (if k = 4 * pR d.1 + x then v else H k)
      by_cases q : k = 4 * pR d.1 + x
      · rw [if_pos q, if_pos q]
      · rw [if_neg q, if_neg q]; exact b' k hk
    · rw [e] at he
      refine sg_R_readRow_1_32 M1 _ _ _ (fun _ => ?_) (fun c => absurd rfl c) (fun c => absurd rfl c) (fun c => absurd rfl c)
      exact hQ.1 (tkS t P) M1 (by unfold rwsF; rw [he]) a (hf.trans f.fd)
theorem sto_C {t : List Nat} (ht : Txt t) {d : Dr} {M0 : Mem} {Q : Option Value → Mem → Prop} (P0 : Nat) : ∀ n x P H (M : Mem), x + n = 4 → P ≤ t.length → RCt t M → M.1 1 3 = nI P → RDc (d.1, d.2.1, H, d.2.2.2) M → FD M0 M → stoF t 4 0 P0 d.2.2.1 = stoF t n x P H → OutC Q M0 (stkF t P0 d) →
    WX mi_R_readStock 4 Q 2 [some (.ref 1), some (.int (nI x))] [] M := by
  intro n
  induction n with
  | zero =>
    intro x P H M hx hP hr m3 hd hf he hQ
    have hle : (4 : Int32) ≤ nI x := by rw [show x = 4 by omega]; decide
    refine sg_R_readStock_1_2 M _ (fun _ => ?_) (fun c => absurd hle c)
    have he : stoF t 4 0 P0 d.2.2.1 = .inr (P, H) := he
    refine hQ.2 P (d.1, d.2.1, H, (d.2.2.2.1, true, d.2.2.2.2.2)) _ (by unfold stkF; rw [he]) (by rw [upd_row, if_neg (by decide)]; exact m3) ?_ (hf.s1 (by decide) _)
    obtain ⟨a', b', c', e1, e2, e3⟩ := hd
    exact ⟨by rw [wr_ne _ (by decide)]; exact a', fun k hk => by rw [wr_ne _ (by decide)]; exact b' k hk, fun k hk => by rw [wr_ne _ (by decide)]; exact c' k hk, by rw [upd_row, if_neg (by decide)]; exact e1, by rw [upd_row, if_pos rfl]; rfl, by rw [upd_row, if_neg (by decide)]; exact e3⟩
  | succ n ih =>
    intro x P H M hx hP hr m3 hd hf he hQ
    have nle : ¬ (4 : Int32) ≤ nI x := Int32.not_le.mpr (nI_lt (b := 4) (by omega) (by decide))
    have he : stoF t 4 0 P0 d.2.2.1 = (match nmF t P 0 21 with | none => .inl (tkS t P) | some v => stoF t n (x + 1) (tkE t P) (updN H x v)) := he
    refine sg_R_readStock_1_2 M _ (fun c => absurd c nle) (fun _ => ?_)
    refine wx_readNumber (l := 0) (n := 21) ht hr m3 hP (by decide) bnd_20 (fun v M1 e a b f _ => ?_) (fun M1 e a f => ?_)
    · rw [e] at he
      have hd1 := hd.ft f
      refine sg_R_readStock_1_14 M1 _ _ (fun _ => vp_in_nI (by omega) (by decide)) (fun _ => ?_) (fun c => absurd c (by decide))
      rw [nI_1, b, nI_clamp (by omega)]
      have s := nm_step e
      have f1 : FD M1 (wr M1 5 x (nI v)) := (FD.refl M1).s3 ⟨by decide, by decide⟩ _ _
      refine ih (x + 1) (tkE t P) (updN H x v) _ (by omega) s.2 ((hr.ft f).fd f1) (by rw [wr_ne _ (by decide)]; exact a) ?_ (hf.trans (f.fd.trans f1)) he hQ
      obtain ⟨a', b', c', e'⟩ := hd1
      refine ⟨by rw [wr_ne _ (by decide)]; exact a', fun k hk => by rw [wr_ne _ (by decide)]; exact b' k hk, fun k hk => ?_, by rw [wr_ne _ (by decide)]; exact e'⟩
      rw [upd_row]
      show _ = nI (if k = x then v else H k)
      by_cases q : k = x
      · rw [if_pos q, if_pos q]
      · rw [if_neg q, if_neg q]; exact c' k hk
    · rw [e] at he
      refine sg_R_readStock_1_14 M1 _ _ (fun c => absurd rfl c) (fun c => absurd rfl c) (fun _ => ?_)
      exact hQ.1 (tkS t P) M1 (by unfold stkF; rw [he]) a (hf.trans f.fd)
theorem sort_C {d : Dr} {M : Mem} (hd : RDc d M) {k : Nat} (hk : k < 16) : z_L_sortOf_3 M (nI k) = 0 ↔ ¬ (pL d.1 k || pD d.1 k) = true := by
  unfold z_L_sortOf_3
  rw [hd.1.2.2.2.1, hd.1.2.2.2.2, holds_sI hk, holds_sI hk]
  cases pL d.1 k <;> cases pD d.1 k <;> decide
theorem cel_C {t : List Nat} (ht : Txt t) {c P : Nat} {d : Dr} {M : Mem} {Q : Option Value → Mem → Prop} (hc : c < 256) (hW : pW d.1 ≤ 4) (hR : pR d.1 ≤ 4) (hr : RCt t M) (m3 : M.1 1 3 = nI P) (hP : P ≤ t.length) (hd : RDc d M) (hQ : OutC Q M (celF t c P d)) : WX mi_R_readCell 4 Q 0 [some (.ref 1), some (.int (nI c)), none, none] [] M := by
  refine sg_R_readCell_1_0 M _ ?_
  have f0 : FD M (wr M 1 9 1) := (FD.refl M).s1 (by decide) _
  have hd0 : RDc (d.1, d.2.1, d.2.2.1, (d.2.2.2.1, d.2.2.2.2.1, true)) (wr M 1 9 1) := by
    obtain ⟨a', b', c', e1, e2, e3⟩ := hd
    exact ⟨by rw [wr_ne _ (by decide)]; exact a', fun k hk => by rw [wr_ne _ (by decide)]; exact b' k hk, fun k hk => by rw [wr_ne _ (by decide)]; exact c' k hk, by rw [upd_row, if_neg (by decide)]; exact e1, by rw [upd_row, if_neg (by decide)]; exact e2, by rw [upd_row, if_pos rfl]; rfl⟩
  have n111 : nI c = 111 ↔ c = 111 := nI_eq (b := 111) (by omega) (by decide)
  have n108 : nI c = 108 ↔ c = 108 := nI_eq (b := 108) (by omega) (by decide)
  rw [hd.1.1]
  refine wx_readNumber (l := 0) (n := pW d.1) ht (hr.fd f0) (by rw [upd_row, if_neg (by decide)]; exact m3) hP (by decide) (bnd_m hW) (fun x M1 e a b f _ => ?_) (fun M1 e a f => ?_)
  · have hd1 := hd0.ft f
    have f1 := f0.trans f.fd
    have s := nm_step e
    have hx := (nm_some e).2.2.2
    refine sg_R_readCell_1_19 M1 _ _ (fun _ => ?_) (fun c => absurd c (by decide))
    rw [b, hd1.1.2.1]
    refine wx_readNumber (l := 0) (n := pR d.1) ht (hr.fd f1) a s.2 (by decide) (bnd_m hR) (fun y M2 e2 a2 b2 g m24 => ?_) (fun M2 e2 a2 g => ?_)
    · have hd2 := hd1.ft g
      have f2 := f1.trans g.fd
      have hy := (nm_some e2).2.2.2
      have ek : z_C_numberOf (nI x) (M2.1 1 6) = nI (4 * y + x) := by
        rw [b2]
        have := numOf (4 * y + x) (by omega)
        rw [show (4 * y + x) % 4 = x by omega, show (4 * y + x) / 4 = y by omega] at this
        exact this
      have eF : celF t c P d = (if c = 111 then .inr (tkE t (tkE t P), ((pW d.1, pR d.1, pL d.1, pD d.1, 4 * y + x), d.2.1, d.2.2.1, (true, d.2.2.2.2.1, true)))
          else if (pL d.1 (4 * y + x) || pD d.1 (4 * y + x)) = true then .inl (tkS t (tkE t P))
          else if c = 108 then .inr (tkE t (tkE t P), ((pW d.1, pR d.1, addB (pL d.1) (4 * y + x), pD d.1, pO d.1), d.2.1, d.2.2.1, (d.2.2.2.1, d.2.2.2.2.1, true)))
          else .inr (tkE t (tkE t P), ((pW d.1, pR d.1, pL d.1, addB (pD d.1) (4 * y + x), pO d.1), d.2.1, d.2.2.1, (d.2.2.2.1, d.2.2.2.2.1, true)))) := by
        unfold celF
        rw [e]
        dsimp only
        rw [e2]
      rw [eF] at hQ
      have hs := sort_C hd2 (show 4 * y + x < 16 by omega)
      obtain ⟨⟨a1, a2', a3, a4, a5⟩, b', c', e1, e2', e3⟩ := hd2
      refine sg_R_readCell_1_43 M2 _ _ _ (fun _ q1 q2 q3 => ?_) (fun _ q1 q2 q3 => ?_) (fun _ q1 q2 => ?_) (fun _ q1 => ?_) (fun c => absurd c (by decide))
      · rw [ek] at q2 ⊢
        rw [n111] at q1
        rw [n108] at q3
        rw [hs] at q2
        rw [if_neg q1, if_neg q2, if_neg q3] at hQ
        rw [sI_one (by omega), a5, sI_or]
        exact hQ.2 _ _ _ rfl (by rw [wr_ne _ (by decide)]; exact a2) ⟨⟨by rw [upd_row, if_neg (by decide)]; exact a1, by rw [upd_row, if_neg (by decide)]; exact a2', by rw [upd_row, if_neg (by decide)]; exact a3, by rw [upd_row, if_neg (by decide)]; exact a4, by rw [upd_row, if_pos rfl]; rfl⟩, fun k hk => by rw [wr_ne _ (by decide)]; exact b' k hk, fun k hk => by rw [wr_ne _ (by decide)]; exact c' k hk, by rw [wr_ne _ (by decide)]; exact ⟨e1, e2', e3⟩⟩ (f2.s3 ⟨by decide, by decide⟩ _ _)
      · rw [ek] at q2 ⊢
        rw [n111] at q1
        rw [n108] at q3
        rw [hs] at q2
        rw [if_neg q1, if_neg q2, if_pos q3] at hQ
        rw [sI_one (by omega), a4, sI_or]
        exact hQ.2 _ _ _ rfl (by rw [wr_ne _ (by decide)]; exact a2) ⟨⟨by rw [upd_row, if_neg (by decide)]; exact a1, by rw [upd_row, if_neg (by decide)]; exact a2', by rw [upd_row, if_neg (by decide)]; exact a3, by rw [upd_row, if_pos rfl]; rfl, by rw [upd_row, if_neg (by decide)]; exact a5⟩, fun k hk => by rw [wr_ne _ (by decide)]; exact b' k hk, fun k hk => by rw [wr_ne _ (by decide)]; exact c' k hk, by rw [wr_ne _ (by decide)]; exact ⟨e1, e2', e3⟩⟩ (f2.s3 ⟨by decide, by decide⟩ _ _)
      · rw [ek] at q2
        rw [n111] at q1
        rw [hs] at q2
        rw [if_neg q1, if_pos (Decidable.not_not.mp q2)] at hQ
        exact hQ.1 _ M2 rfl m24 f2
      · rw [n111] at q1
        rw [if_pos q1] at hQ
        rw [ek]
        exact hQ.2 _ _ _ rfl (by rw [upd_row, if_neg (by decide), wr_ne _ (by decide)]; exact a2) ⟨⟨by rw [wr_ne _ (by decide), upd_row, if_neg (by decide)]; exact a1, by rw [wr_ne _ (by decide), upd_row, if_neg (by decide)]; exact a2', by rw [wr_ne _ (by decide), upd_row, if_pos rfl]; rfl, by rw [wr_ne _ (by decide), upd_row, if_neg (by decide)]; exact a4, by rw [wr_ne _ (by decide), upd_row, if_neg (by decide)]; exact a5⟩, fun k hk => by rw [wr_ne _ (by decide), wr_ne _ (by decide)]; exact b' k hk, fun k hk => by rw [wr_ne _ (by decide), wr_ne _ (by decide)]; exact c' k hk, by rw [upd_row, if_pos rfl]; rfl, by rw [upd_row, if_neg (by decide), wr_ne _ (by decide)]; exact e2', by rw [upd_row, if_neg (by decide), wr_ne _ (by decide)]; exact e3⟩ ((f2.s3 ⟨by decide, by decide⟩ _ _).s1 (by decide) _)
    · refine sg_R_readCell_1_43 M2 _ _ _ (fun c => absurd rfl c) (fun c => absurd rfl c) (fun c => absurd rfl c) (fun c => absurd rfl c) (fun _ => ?_)
      refine hQ.1 (tkS t (tkE t P)) M2 ?_ a2 (f1.trans g.fd)
      unfold celF
      rw [e]
      dsimp only
      rw [e2]
  · refine sg_R_readCell_1_19 M1 _ _ (fun c => absurd rfl c) (fun _ => ?_)
    exact hQ.1 (tkS t P) M1 (by unfold celF; rw [e]) a (f0.trans f.fd)
