/-! ===== the law's same(): of two yards in one state all answers are the same ===== -/
theorem DD.sym {s : Sg} {M : Mem} (h : DD s s M) : RC s M := h.1
theorem k_same {B : Nat} {s : Sg} {M : Mem} {Q : Option Value → Mem → Prop} (hw : WfS B s) (h : DD s s M) (hQ : ∀ M1, DD s s M1 → Sc M M1 → Q (some (.int 1)) M1) :
    WX mi_T_same 6 Q 0 [some (.ref 0), some (.ref 37), none, none] [] M := by
  have l9 : ∀ k, k < 9 → ¬ (9 : Int32) ≤ nI k := by decide
  have l8 : ∀ k, k < 8 → ¬ (8 : Int32) ≤ nI k := by decide
  have loop2 : ∀ k, k ≤ 9 → ∀ M1 : Mem, DD s s M1 → Sc M M1 → WX mi_T_same 6 Q 92 [some (.ref 0), some (.ref 37), some (.int 1), some (.int (nI k))] [] M1 := by
    refine downN 9 (fun M1 h1 c1 => ?_) (fun k hk ih M1 h1 c1 => ?_)
    · exact sg_T_same_0_37_92 M1 _ _ (fun _ => Or.inr rfl) (fun _ => hQ M1 h1 c1) (fun c => absurd (by decide) c) (fun c => absurd (by decide) c)
    · refine sg_T_same_0_37_92 M1 _ _ (fun c => absurd c (l9 k hk)) (fun c => absurd c (l9 k hk)) (fun _ c => absurd c (by decide)) (fun _ _ => ?_)
      obtain ⟨r, -, k1⟩ := k_cell (nI k / 3) (rem (nI k) 3) 0 hw
      obtain ⟨r', -, k2⟩ := k_cell (nI k / 3) (rem (nI k) 3) 3 hw
      refine k1.k0.o h1 (fun M2 h2 c2 => ?_)
      refine sg_T_same_0_37_113 M2 _ _ _ ?_
      refine k1.k0.q rfl rfl h2 (fun M3 h3 c3 => ?_)
      refine sg_T_same_0_37_124 M3 _ _ _ _ (fun c => absurd rfl c) (fun _ => ?_)
      refine k2.k0.o h3 (fun M4 h4 c4 => ?_)
      refine sg_T_same_0_37_138 M4 _ _ _ ?_
      refine k2.k0.q rfl rfl h4 (fun M5 h5 c5 => ?_)
      refine sg_T_same_0_37_149 M5 _ _ _ _ (fun c => absurd rfl c) (fun _ => ?_)
      rw [nI_1]
      exact ih M5 h5 ((((c1.trans c2).trans c3).trans c4).trans c5)
  have loop1 : ∀ k, k ≤ 8 → ∀ M1 : Mem, DD s s M1 → Sc M M1 → WX mi_T_same 6 Q 20 [some (.ref 0), some (.ref 37), some (.int 1), some (.int (nI k))] [] M1 := by
    refine downN 8 (fun M1 h1 c1 => ?_) (fun k hk ih M1 h1 c1 => ?_)
    · exact sg_T_same_0_37_20 M1 _ _ (fun _ => loop2 0 (by decide) M1 h1 c1) (fun c => absurd (by decide) c) (fun c => absurd (by decide) c)
    · refine sg_T_same_0_37_20 M1 _ _ (fun c => absurd c (l8 k hk)) (fun _ c => absurd c (by decide)) (fun _ _ => ?_)
      obtain ⟨r, k1⟩ := k_now (nI k) hw
      refine k1.k0.o h1 (fun M2 h2 c2 => ?_)
      refine sg_T_same_0_37_35 M2 _ _ _ ?_
      refine k1.k0.q rfl rfl h2 (fun M3 h3 c3 => ?_)
      have c13 := (c1.trans c2).trans c3
      have fin : ∀ (a : Int32) (M4 : Mem), DD s s M4 → Sc M M4 → a = stkV s (nI k &&& 3) → WX mi_C_stock 2 (fun rv M' => WX mi_T_same 6 Q 75 [some (.ref 0), some (.ref 37), some (.int 1), some (.int (nI k))] (rv.toList ++ [.int a]) M') 0 [some (.ref 37), some (.int (nI k &&& 3))] [] M4 := by
        intro a M4 h4 c4 ea
        refine (k_stock s (nI k &&& 3)).k0.q rfl rfl h4 (fun M5 h5 c5 => ?_)
        refine sg_T_same_0_37_75 M5 _ _ _ _ (fun c => absurd ea c) (fun _ => ?_)
        rw [nI_1]
        exact ih M5 h5 (c4.trans c5)
      refine sg_T_same_0_37_40 M3 _ _ _ _ (fun c => absurd rfl c) (fun _ _ c => (size_lt c).2) (fun _ _ => fin _ M3 h3 c13 (stock_z h3.1 _)) (fun _ _ => ?_)
      refine (k_count s (nI k)).k0.q rfl rfl h3 (fun M4 h4 c4 => ?_)
      exact sg_T_same_0_37_58 M4 _ _ _ _ (fun c => absurd (count_z h3.1 _) c) (fun _ c => (size_lt c).2) (fun _ => fin _ M4 h4 (c13.trans c4) (stock_z h4.1 _))
  refine sg_T_same_0_37_0 M ?_
  refine (k_trace s).k0.o h (fun M1 h1 c1 => ?_)
  refine sg_T_same_0_37_4 M1 _ ?_
  refine (k_trace s).k0.q rfl rfl h1 (fun M2 h2 c2 => ?_)
  have e : lg_cmp s.2.2.2.2.2 s.2.2.2.2.2 = 0 := by
    unfold lg_cmp
    rw [if_neg (by simp [Int64.lt_irrefl])]
    simp
  exact sg_T_same_0_37_8 M2 _ _ (fun c => absurd e c) (fun _ => loop1 0 (by decide) M2 h2 (c1.trans c2))
