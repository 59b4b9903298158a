/-! ===== the law from its loop's head ===== -/
theorem nI_nm2 {n : Nat} (h : n < 2 ^ 31) : ¬ nI n = -2 := by
  intro q
  have h1 := congrArg Int32.toInt q
  rw [nI_toInt h, show (-2 : Int32).toInt = -2 from rfl] at h1
  omega
/-- one round, behind the turn -/
theorem law_inner {B k : Nat} {s : Sg} {x4 z : Int32} {Q : Option Value → Mem → Prop} (hw : WfS B s) (hB : B ≤ 2400) (ht : Tame k s) (hk : k ≤ 30) {M0 M : Mem} (hd : DD s s M) (hc : Sc M0 M)
    (fin : ∀ M1, DD s s M1 → Sc M0 M1 → WX mi_law 28 Q 39 [some (.ref 104), some (.ref 0), some (.ref 37), some (.int 1), some (.int (x4 + 1)), none, none, none, none, none, none] [] M1) :
    WX mi_law 28 Q 104 [some (.ref 104), some (.ref 0), some (.ref 37), some (.int 1), some (.int x4), some (.int z), none, none, none, none, none] [.int (cntV s 4)] M := by
  rw [cntV_4]
  have h10 : s.2.2.1.2.length ≤ 10 := hw.2.2.1.2.2
  by_cases h7 : 7 ≤ s.2.2.1.2.length
  · have h7' : 7 ≤ nI s.2.2.1.2.length := by
      rw [show (7 : Int32) = nI 7 from rfl, nI_le_iff (by decide) (by omega)]
      exact h7
    exact sg_law_104 M _ _ _ _ (fun _ => fin M hd hc) (fun c => absurd h7' c) (fun c => absurd h7' c)
  · have h7' : ¬ 7 ≤ nI s.2.2.1.2.length := by
      rw [show (7 : Int32) = nI 7 from rfl, nI_le_iff (by decide) (by omega)]
      exact h7
    refine sg_law_104 M _ _ _ _ (fun c => absurd c h7') (fun _ c => absurd c (by decide)) (fun _ _ => ?_)
    obtain ⟨a, ha, ea⟩ := and_3 (shr z 9)
    obtain ⟨b, hb, eb⟩ := low_n (shr z 11) (n := 3) (by decide) (by decide)
    obtain ⟨c, hcc, ec⟩ := low_n (shr z 13) (n := 3) (by decide) (by decide)
    have eb : z_T_low (shr z 11) 3 = nI b := eb
    have ec : z_T_low (shr z 13) 3 = nI c := ec
    rw [ea, eb, ec]
    have ok : (0 ≤ nI a ∧ nI a ≤ 3) ∧ okc s.2.1 (nI b) (nI c) = true := by
      refine ⟨?_, rY_okc ht.2.1 hb hcc⟩
      have : ∀ a, a < 4 → (0 : Int32) ≤ nI a ∧ nI a ≤ 3 := by decide
      exact this a ha
    obtain ⟨r, s1, w1, hP, k1⟩ := k_lays (by omega) (nI a) (nI b) (nI c) hw
    refine k1.q rfl rfl hd (fun M1 h1 c1 => ?_)
    rcases hP with ⟨es, hr | ⟨-, hr⟩⟩ | ⟨ha1, m, hm, hr⟩
    · subst es hr
      refine sg_law_146 M1 _ _ _ _ _ (fun c => absurd rfl c) (fun _ => ?_)
      exact law_tail (j := 0) (k := k) hw w1 (by omega) ht.2.1 rfl (by omega) (by decide) rfl (by omega) ht.2.2.1 h1 (hc.trans c1) fin
    · exact absurd ok hr
    · have hd1 : gDy s1.2.2.1.1 ≤ k + 1 := by
        obtain ⟨e, g', hg, q⟩ := ha1
        have := ht.2.2.1
        rw [q]
        show gDy g' ≤ k + 1
        omega
      have n2 : ¬ r = -2 := by rw [hr]; exact nI_nm2 hm
      refine sg_law_146 M1 _ _ _ _ _ (fun _ => ?_) (fun c => absurd c n2)
      exact law_tail (j := 1) (k := k + 1) hw w1 (by omega) ht.2.1 rfl (by omega) (by decide) ⟨s, rfl, ha1.ac (by omega)⟩ (by omega) hd1 h1 (hc.trans c1) fin
theorem law_loop28 {L : Nat} (hL : L ≤ 260) : ∀ (f k : Nat) (s : Sg) (M : Mem), k + f = 18 → WfS (20 + 100 * k) s → Tame k s → DD s s M → M.1 105 0 = nI L →
    WX mi_law 28 (fun rv _ => rv = some (.int 1)) 39 [some (.ref 104), some (.ref 0), some (.ref 37), some (.int 1), some (.int (nI k)), none, none, none, none, none, none] [] M := by
  intro f
  induction f with
  | zero =>
    intro k s M hk hw ht hd hM
    have hk : k = 18 := by omega
    subst hk
    have ge : (18 : Int32) ≤ nI 18 := by decide
    refine sg_law_39 M _ _ (fun _ c => absurd c (by decide)) (fun _ _ => ?_) (fun c => absurd ge c) (fun c => absurd ge c) (fun c => absurd ge c) (fun c => absurd ge c)
    obtain ⟨r, k1⟩ := k_feeds 2 2 hw
    obtain ⟨r', k2⟩ := k_drop 0 0 1 hw
    refine k1.k0.o hd (fun M1 h1 c1 => ?_)
    refine sg_law_321 M1 _ _ _ ?_
    refine k1.k0.q rfl rfl h1 (fun M2 h2 c2 => ?_)
    refine sg_law_327 M2 _ _ _ _ (fun c => absurd rfl c) (fun _ => ?_)
    refine k2.k0.o h2 (fun M3 h3 c3 => ?_)
    refine sg_law_337 M3 _ _ _ ?_
    refine k2.k0.q rfl rfl h3 (fun M4 h4 c4 => ?_)
    exact sg_law_344 M4 _ _ _ _ (fun c => absurd rfl c) (fun _ => rfl)
  | succ f ih =>
    intro k s M hk hw ht hd hM
    have lt : ¬ (18 : Int32) ≤ nI k := by
      rw [show (18 : Int32) = nI 18 from rfl, nI_le_iff (by decide) (by omega)]
      omega
    refine sg_law_39 M _ _ (fun c => absurd c lt) (fun c => absurd c lt) (fun _ c => absurd c (by decide)) (fun _ c => absurd c (by decide)) (fun _ _ c => ?_) (fun _ _ => ?_)
    · rw [hM] at c ⊢
      rw [nI_le_iff (by omega) (by omega)] at c
      rw [nI_clamp (by omega)]
      exact vp_in_nI (by omega) (by omega)
    · generalize z_T_cell_104 M (nI k) = z
      have hb := shr_6 z
      refine WX.toQ (n := 3) (as := [.int (shr z 6)]) rfl (k_refused hw hd.2 (far_1 hb.2) (far_2 hb.1) ?_)
      rw [swp_swp]
      refine sg_law_67 M _ _ _ _ (fun c => absurd c (by decide)) (fun _ => ?_)
      obtain ⟨r, s1, w1, t1, k1⟩ := k_turn (by omega) (by omega) hw ht z
      refine k1.o hd (fun M1 h1 c1 => ?_)
      refine sg_law_76 M1 _ _ _ _ ?_
      refine k1.q rfl rfl h1 (fun M2 h2 c2 => ?_)
      refine sg_law_82 M2 _ _ _ _ _ (fun c => absurd rfl c) (fun _ => ?_)
      refine k_same w1 h2 (fun M3 h3 c3 => ?_)
      refine sg_law_90 M3 _ _ _ _ (fun c => absurd c (by decide)) (fun _ => ?_)
      refine (k_count s1 4).k0.q rfl rfl h3 (fun M4 h4 c4 => ?_)
      refine law_inner (k := k + 1) (M0 := M) w1 (by omega) t1 (by omega) h4 (c1.trans (c2.trans (c3.trans c4))) (fun M5 h5 c5 => ?_)
      rw [nI_1]
      exact ih (k + 1) s1 M5 (by omega) (w1.up (by omega)) t1 h5 (by rw [c5.2]; exact hM)
/-- the law behind the making -/
theorem law_wx {L : Nat} {M : Mem} (hL : L ≤ 260) (hI : DD (sgD drN 0) (sgD drN 0) M) (hM : M.1 105 0 = nI L) :
    WX mi_law 28 (fun rv _ => rv = some (.int 1)) 16 [some (.ref 104), some (.ref 0), some (.ref 37), none, none, none, none, none, none, none, none] [] M := by
  have ky : K0 mi_T_yard 8 [] (sgD drN 0) (.int 1) (yS 0) := k_yard0
  refine sg_law_16 M ?_
  refine ky.o hI (fun M1 h1 c1 => ?_)
  refine sg_law_20 M1 _ (fun c => absurd c (by decide)) (fun _ => ?_)
  refine ky.q rfl rfl h1 (fun M2 h2 c2 => ?_)
  refine sg_law_27 M2 _ (fun c => absurd c (by decide)) (fun _ => ?_)
  exact law_loop28 hL 18 0 (yS 0) M2 (by decide) (yS_wf (by decide) 0) (yS_tame 0 0) h2 (by rw [(c1.trans c2).2]; exact hM)
