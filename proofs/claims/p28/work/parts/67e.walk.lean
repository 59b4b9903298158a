/-! ===== what is done is undone ===== -/
theorem nI_a (a b : Nat) : nI a + nI b = nI (a + b) := nI_add a b
theorem cntV_4 (s : Sg) : cntV s 4 = nI s.2.2.1.2.length := by
  unfold cntV
  rw [if_neg (by decide), if_neg (by decide), if_neg (by decide), if_neg (by decide), if_pos rfl]
/-- something was done, and nothing was lost -/
def Ac (s s' : Sg) : Prop := ∃ e g', s' = (s.1, s.2.1, (g', (e, s.2.2.1.1) :: s.2.2.1.2), s.2.2.2)
theorem Act.ac {s s' : Sg} (h : Act s s') (hl : s.2.2.1.2.length < 10) : Ac s s' := by
  obtain ⟨e, g', -, rfl⟩ := h
  rw [more_lt hl]
  exact ⟨e, g', rfl⟩
theorem Ac.len {s s' : Sg} (h : Ac s s') : s'.2.2.1.2.length = s.2.2.1.2.length + 1 := by
  obtain ⟨e, g', rfl⟩ := h
  rfl
/-- so many things were done since -/
def U : Nat → Sg → Sg → Prop
  | 0, s0, s => s = s0
  | j + 1, s0, s => ∃ sm, U j s0 sm ∧ Ac sm s
theorem U.len : ∀ {j : Nat} {s0 s : Sg}, U j s0 s → s.2.2.1.2.length = s0.2.2.1.2.length + j
  | 0, _, _, h => by rw [show _ = _ from h]; rfl
  | j + 1, _, _, ⟨sm, h1, h2⟩ => by rw [h2.len, U.len h1]; omega
theorem U.pl : ∀ {j : Nat} {s0 s : Sg}, U j s0 s → s.2.1 = s0.2.1
  | 0, _, _, h => by rw [show _ = _ from h]
  | j + 1, _, _, ⟨sm, h1, e, g', h2⟩ => by rw [h2]; exact (U.pl h1 : sm.2.1 = _)
/-- the way back -/
theorem undo_walk {B0 : Nat} {s0 : Sg} {n : Nat} {x4 x5 x7 x8 x9 : Int32} {Q : Option Value → Mem → Prop} (hw0 : WfS B0 s0) (hn : n = s0.2.2.1.2.length) (hn10 : n ≤ 10) {M0 : Mem} (fin : ∀ M1, DD s0 s0 M1 → Sc M0 M1 → WX mi_law 28 Q 39 [some (.ref 104), some (.ref 0), some (.ref 37), some (.int 1), some (.int (x4 + 1)), none, none, none, none, none, none] [] M1) :
    ∀ (j B : Nat) (s : Sg) (M : Mem), WfS B s → B + j ≤ 2580 → j ≤ 10 → U j s0 s → DD s0 s M → Sc M0 M → WX mi_law 28 Q 254 [some (.ref 104), some (.ref 0), some (.ref 37), some (.int 1), some (.int x4), some (.int x5), some (.int (nI n)), some (.int x7), some (.int x8), some (.int x9), some (.int (nI j - 1))] [] M := by
  intro j
  induction j with
  | zero =>
    intro B s M hw hB hj hU hd hc
    have e : s = s0 := hU
    subst e
    have lt : (nI 0 - 1 : Int32) < 0 := by decide
    refine sg_law_254 M _ _ _ _ _ _ _ _ (fun _ c => absurd c (by decide)) (fun _ _ => ?_) (fun c => absurd lt c) (fun c => absurd lt c) (fun c => absurd lt c)
    refine k_same hw0 hd (fun M1 h1 c1 => ?_)
    exact sg_law_296 M1 _ _ _ _ _ _ _ _ _ (fun c => absurd c (by decide)) (fun _ => fin M1 h1 (hc.trans c1))
  | succ j ih =>
    intro B s M hw hB hj hU hd hc
    obtain ⟨sm, hU1, e, g', rfl⟩ := hU
    have ej : nI (j + 1) - 1 = nI j := nI_posS (Nat.succ_pos j)
    rw [ej]
    have nlt : ¬ nI j < 0 := by
      have := (nI_lt_iff (a := j) (b := 0) (by omega) (by decide))
      rw [show (0 : Int32) = nI 0 from rfl, this]
      omega
    refine sg_law_254 M _ _ _ _ _ _ _ _ (fun c => absurd c nlt) (fun c => absurd c nlt) (fun _ c => absurd c (by decide)) (fun _ c => absurd c (by decide)) (fun _ _ => ?_)
    obtain ⟨r, s', w, hP, k⟩ := k_undo (by omega) hw
    refine k.q rfl rfl hd (fun M1 h1 c1 => ?_)
    rcases hP with ⟨h, -, -⟩ | ⟨e2, s1, hs, h, hs', hr⟩
    · cases h
    · have h : (e, sm.2.2.1.1) :: sm.2.2.1.2 = (e2, s1) :: hs := h
      injection h with h3 h4
      injection h3 with h5 h6
      subst h6 h4
      have es : s' = sm := hs'
      subst es
      have er : r = nI n + nI j := by
        rw [hr, nI_a, hU1.len, hn]
      refine sg_law_267 M1 _ _ _ _ _ _ _ _ _ (fun c => absurd er c) (fun _ => ?_)
      have e1 : nI j + (-1) = nI j - 1 := (Int32.sub_eq_add_neg _ _).symm
      rw [e1]
      exact ih (B + 1) s' M1 w (by omega) (by omega) hU1 h1 (hc.trans c1)
theorem rY_thr {p : Pl} (hp : p = rY.2.1) {y : Nat} (hy : y < 2) : thr p (4 * y) = true ∧ pD p (4 * y) = false := by
  subst hp
  have : y = 0 ∨ y = 1 := by omega
  rcases this with rfl | rfl
  · exact ⟨by decide +kernel, rY_d0⟩
  · exact ⟨by decide +kernel, rY_d4⟩
theorem rY_okc {p : Pl} (hp : p = rY.2.1) {b c : Nat} (hb : b < 3) (hc : c < 3) : okc p (nI b) (nI c) = true := by
  unfold okc
  rw [hp, rY_w, rY_r, nI_toInt (by omega), nI_toInt (by omega)]
  rw [decide_eq_true (by omega), decide_eq_true (by omega), decide_eq_true (by omega), decide_eq_true (by omega)]
  rfl
/-- behind lays: the raise, the day, the way back -/
theorem law_tail {B0 B : Nat} {s0 s1 : Sg} {n j k : Nat} {x4 z : Int32} {Q : Option Value → Mem → Prop} (hw0 : WfS B0 s0) (hw : WfS B s1) (hB : B ≤ 2500) (hp : s0.2.1 = rY.2.1) (hn : n = s0.2.2.1.2.length) (hn7 : n < 7) (hj : j ≤ 1) (hU : U j s0 s1) (hk : k ≤ 40) (hdy : gDy s1.2.2.1.1 ≤ k) {M0 M : Mem} (hd : DD s0 s1 M) (hc : Sc M0 M)
    (fin : ∀ M1, DD s0 s0 M1 → Sc M0 M1 → WX mi_law 28 Q 39 [some (.ref 104), some (.ref 0), some (.ref 37), some (.int 1), some (.int (x4 + 1)), none, none, none, none, none, none] [] M1) :
    WX mi_C_cell 5 (fun rv M' => WX mi_law 28 Q 177 [some (.ref 104), some (.ref 0), some (.ref 37), some (.int 1), some (.int x4), some (.int z), some (.int (nI n)), some (.int (nI (j + 1))), some (.int (z_T_low (shr z 15) 2)), none, none] (rv.toList ++ []) M') 0 [some (.ref 37), some (.int 0), some (.int (z_T_low (shr z 15) 2)), some (.int 0), none, none] [] M := by
  obtain ⟨y, hy, ey⟩ := low_n (shr z 15) (n := 2) (by decide) (by decide)
  obtain ⟨w, hw9, ew⟩ := low_n (shr z 17) (n := 9) (by decide) (by decide)
  have ey : z_T_low (shr z 15) 2 = nI y := ey
  have ew : z_T_low (shr z 17) 9 = nI w := ew
  rw [ey]
  have hp1 : s1.2.1 = rY.2.1 := hU.pl.trans hp
  obtain ⟨ht, hdr⟩ := rY_thr hp1 hy
  have hk16 : 4 * y < 16 := by omega
  have e0 : (0 : Int32) = nI (4 * y % 4) := by rw [show 4 * y % 4 = 0 by omega]; rfl
  have e4 : nI y = nI (4 * y / 4) := by rw [show 4 * y / 4 = y by omega]
  have hl1 := hU.len
  obtain ⟨r, hr, k1⟩ := k_cell 0 (nI y) 0 hw
  have hr := hr (4 * y) hk16 e0 e4 ht rfl
  have h9 : gHt s1.2.2.1.1 (4 * y) ≤ 9 := hw.2.2.1.1.1 (4 * y) hk16 ht
  refine k1.k0.q rfl rfl hd (fun M2 h2 c2 => ?_)
  subst hr
  refine sg_law_177 M2 _ _ _ _ _ _ _ ?_
  have eh : rem ((nI (gHt s1.2.2.1.1 (4 * y)) + 1) + z_T_low (shr z 17) 9) 10 = nI ((gHt s1.2.2.1.1 (4 * y) + 1 + w) % 10) := by
    rw [ew, nI_1, nI_a, show (10 : Int32) = nI 10 from rfl, rem_n (by omega) (by decide)]
  rw [eh]
  obtain ⟨r2, s2, w2, hP2, k2⟩ := k_raises 0 (nI y) (nI ((gHt s1.2.2.1.1 (4 * y) + 1 + w) % 10)) hw
  refine k2.q rfl rfl h2 (fun M3 h3 c3 => ?_)
  rcases hP2 with ⟨-, hbad⟩ | ⟨k', hk', e1, e2, hr2, ha⟩
  · have := hbad (4 * y) ((gHt s1.2.2.1.1 (4 * y) + 1 + w) % 10) hk16 (by omega) e0 e4 rfl ht hdr
    omega
  · have ek : 4 * y = k' := inj4 (4 * y) hk16 k' hk' (e0.symm.trans e1) (e4.symm.trans e2)
    subst ek
    have ha2 := ha.ac (by omega)
    have hd2 : gDy s2.2.2.1.1 ≤ k + 1 := by
      obtain ⟨e, g', hg, q⟩ := ha
      rw [q]
      show gDy g' ≤ k + 1
      omega
    refine sg_law_204 M3 _ _ _ _ _ _ _ _ (fun c => absurd hr2 c) (fun _ => ?_)
    obtain ⟨r3, s3, w3, hP3, k3⟩ := k_day w2
    refine k3.q rfl rfl h3 (fun M4 h4 c4 => ?_)
    rcases hP3 with ⟨h99, -⟩ | ⟨ha3, hr3⟩
    · omega
    · have ha3 := ha3.ac (by rw [ha2.len]; omega)
      have pos : ¬ r3 ≤ 0 := by
        rw [hr3, show (0 : Int32) = nI 0 from rfl, nI_le_iff (by omega) (by decide)]
        omega
      refine sg_law_213 M4 _ _ _ _ _ _ _ _ (fun c => absurd c pos) (fun _ => ?_)
      refine (k_count s3 4).k0.q rfl rfl h4 (fun M5 h5 c5 => ?_)
      have hU3 : U (j + 2) s0 s3 := ⟨s2, ⟨s1, hU, ha2⟩, ha3⟩
      have e5 : cntV s3 4 = nI n + (nI (j + 1) + 1) := by
        rw [cntV_4, hU3.len, nI_1, nI_a, hn]
      refine sg_law_234 M5 _ _ _ _ _ _ _ _ (fun c => absurd e5 c) (fun _ => ?_)
      have e6 : nI (j + 1) + 1 = nI (j + 2) := nI_1 _
      have u := undo_walk (x4 := x4) (x5 := z) (x7 := nI (j + 1) + 1) (x8 := nI y) (x9 := nI (gHt s1.2.2.1.1 (4 * y))) (Q := Q) hw0 hn (by omega) fin (j + 2) (B + 2) s3 M5 w3 (by omega) (by omega) hU3 h5 (hc.trans (c2.trans (c3.trans (c4.trans c5))))
      rw [← e6] at u
      exact u
