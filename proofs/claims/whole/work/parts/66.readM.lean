/-! ===== yard: the model's items; printed by wip/gen/p66.py ===== -/
theorem cel_end111 {t : List Nat} {P x y : Nat} {d : Dr} {M : Mem} {Q : Option Value → Mem → Prop} (hk : 4 * y + x < 16) (hdt : d.2.2.2.1 = false) (hm : TM t P M) (h9 : M.1 37 17 = -9) (hd : RDm d M) (hQ : ∀ M', TM t P M' → M'.1 37 17 = -9 → RDm ((pW d.1, pR d.1, pL d.1, pD d.1, 4 * y + x), d.2.1, d.2.2.1, (true, d.2.2.2.2.1, true)) M' → FDm M M' → Q none M') : WX mi_M_readRow 5 Q 221 [some (.ref 37), some (.int (nI 111)), some (.int (nI x)), none, none] [.int (nI y)] M := by
  obtain ⟨⟨a1, a2, a3, a4, a5⟩, b', c', e1, e2, e3⟩ := hd
  have ek : (4 * nI y) + nI x = nI (4 * y + x) := by rw [show (4 : Int32) = nI 4 from rfl, nI_mul, nI_add]
  have E108 : ¬ nI 111 = 108 := by decide
  have E100 : ¬ nI 111 = 100 := by decide
  have E111 : nI 111 = 111 := rfl
  have fin : ∀ v : Int32, v = bI true → Q none (wr (wr (wr (wr (wr M 37 10 1) 41 1 ((M.1 41 1) ||| 0)) 42 1 ((M.1 42 1) ||| 0)) 43 1 ((4 * nI y) + nI x)) 37 11 v) := by
    intro v hv
    refine hQ _ (((((hm.keep (Or.inr (Or.inl (by decide))) _).keep (Or.inl (by decide)) _).keep (Or.inl (by decide)) _).keep (Or.inl (by decide)) _).keep (Or.inr (Or.inl (by decide))) _) ?_ ⟨⟨?_, ?_, ?_, ?_, ?_⟩, fun k hk ht => ?_, fun z hz => ?_, ?_, ?_, ?_⟩ ((((((FDm.refl M).s7 ⟨by decide, by decide⟩ _).s1 ⟨by decide, by decide⟩ _).s1 ⟨by decide, by decide⟩ _).s1 ⟨by decide, by decide⟩ _).s7 ⟨by decide, by decide⟩ _)
    · rw [upd_row, if_neg (by decide), wr_ne _ (by decide), wr_ne _ (by decide), wr_ne _ (by decide), upd_row, if_neg (by decide)]; exact h9
    · rw [wr_ne _ (by decide), wr_ne _ (by decide), wr_ne _ (by decide), wr_ne _ (by decide), wr_ne _ (by decide)]; exact a1
    · rw [wr_ne _ (by decide), wr_ne _ (by decide), wr_ne _ (by decide), wr_ne _ (by decide), wr_ne _ (by decide)]; exact a2
    · rw [wr_ne _ (by decide), upd_row, if_pos rfl, ek]; rfl
    · rw [wr_ne _ (by decide), wr_ne _ (by decide), wr_ne _ (by decide), upd_row, if_pos rfl, or0]; exact a4
    · rw [wr_ne _ (by decide), wr_ne _ (by decide), upd_row, if_pos rfl, or0]; exact a5
    · rw [wr_ne _ (by decide), wr_ne _ (by decide), wr_ne _ (by decide), wr_ne _ (by decide), wr_ne _ (by decide)]; exact b' k hk ht
    · rw [wr_ne _ (by decide), wr_ne _ (by decide), wr_ne _ (by decide), wr_ne _ (by decide), wr_ne _ (by decide)]; exact c' z hz
    · rw [upd_row, if_pos rfl]; exact hv
    · rw [upd_row, if_neg (by decide), wr_ne _ (by decide), wr_ne _ (by decide), wr_ne _ (by decide), upd_row, if_neg (by decide)]; exact e2
    · rw [upd_row, if_neg (by decide), wr_ne _ (by decide), wr_ne _ (by decide), wr_ne _ (by decide), upd_row, if_pos rfl]; rfl
  have F11 : M.1 37 11 = 0 := by rw [e1, hdt]; rfl
  have K := fin 1 rfl
  refine sg_M_readRow_37_221 M _ _ _ ?_ ?_ ?_ ?_ ?_ ?_ ?_ ?_ ?_ ?_ ?_ ?_ ?_ ?_ ?_ ?_ ?_ ?_ ?_ ?_ ?_ ?_ ?_ ?_ ?_
  all_goals intros
  all_goals first | with_reducible exact absurd h9 (by assumption) | with_reducible exact absurd (by assumption) h9 | with_reducible exact absurd (by assumption) E108 | with_reducible exact absurd (by assumption) E100 | with_reducible exact absurd E111 (by assumption) | with_reducible exact absurd F11 (by assumption) | with_reducible exact K
theorem cel_end108 {t : List Nat} {P x y : Nat} {d : Dr} {M : Mem} {Q : Option Value → Mem → Prop} (hk : 4 * y + x < 16) (hm : TM t P M) (h9 : M.1 37 17 = -9) (hd : RDm d M) (hQ : ∀ M', TM t P M' → M'.1 37 17 = -9 → RDm ((pW d.1, pR d.1, addB (pL d.1) (4 * y + x), pD d.1, pO d.1), d.2.1, d.2.2.1, (d.2.2.2.1, d.2.2.2.2.1, true)) M' → FDm M M' → Q none M') : WX mi_M_readRow 5 Q 221 [some (.ref 37), some (.int (nI 108)), some (.int (nI x)), none, none] [.int (nI y)] M := by
  obtain ⟨⟨a1, a2, a3, a4, a5⟩, b', c', e1, e2, e3⟩ := hd
  have ek : (4 * nI y) + nI x = nI (4 * y + x) := by rw [show (4 : Int32) = nI 4 from rfl, nI_mul, nI_add]
  have E108 : nI 108 = 108 := rfl
  have E100 : ¬ nI 108 = 100 := by decide
  have E111 : ¬ nI 108 = 111 := by decide
  have fin : ∀ v : Int32, v = bI d.2.2.2.1 → Q none (wr (wr (wr (wr (wr M 37 10 1) 41 1 ((M.1 41 1) ||| (shl 1 ((4 * nI y) + nI x)))) 42 1 ((M.1 42 1) ||| 0)) 43 1 (M.1 43 1)) 37 11 v) := by
    intro v hv
    refine hQ _ (((((hm.keep (Or.inr (Or.inl (by decide))) _).keep (Or.inl (by decide)) _).keep (Or.inl (by decide)) _).keep (Or.inl (by decide)) _).keep (Or.inr (Or.inl (by decide))) _) ?_ ⟨⟨?_, ?_, ?_, ?_, ?_⟩, fun k hk ht => ?_, fun z hz => ?_, ?_, ?_, ?_⟩ ((((((FDm.refl M).s7 ⟨by decide, by decide⟩ _).s1 ⟨by decide, by decide⟩ _).s1 ⟨by decide, by decide⟩ _).s1 ⟨by decide, by decide⟩ _).s7 ⟨by decide, by decide⟩ _)
    · rw [upd_row, if_neg (by decide), wr_ne _ (by decide), wr_ne _ (by decide), wr_ne _ (by decide), upd_row, if_neg (by decide)]; exact h9
    · rw [wr_ne _ (by decide), wr_ne _ (by decide), wr_ne _ (by decide), wr_ne _ (by decide), wr_ne _ (by decide)]; exact a1
    · rw [wr_ne _ (by decide), wr_ne _ (by decide), wr_ne _ (by decide), wr_ne _ (by decide), wr_ne _ (by decide)]; exact a2
    · rw [wr_ne _ (by decide), upd_row, if_pos rfl]; exact a3
    · rw [wr_ne _ (by decide), wr_ne _ (by decide), wr_ne _ (by decide), upd_row, if_pos rfl, a4, ek, sI_one hk, sI_or]; rfl
    · rw [wr_ne _ (by decide), wr_ne _ (by decide), upd_row, if_pos rfl, or0]; exact a5
    · rw [wr_ne _ (by decide), wr_ne _ (by decide), wr_ne _ (by decide), wr_ne _ (by decide), wr_ne _ (by decide)]; exact b' k hk ht
    · rw [wr_ne _ (by decide), wr_ne _ (by decide), wr_ne _ (by decide), wr_ne _ (by decide), wr_ne _ (by decide)]; exact c' z hz
    · rw [upd_row, if_pos rfl]; exact hv
    · rw [upd_row, if_neg (by decide), wr_ne _ (by decide), wr_ne _ (by decide), wr_ne _ (by decide), upd_row, if_neg (by decide)]; exact e2
    · rw [upd_row, if_neg (by decide), wr_ne _ (by decide), wr_ne _ (by decide), wr_ne _ (by decide), upd_row, if_pos rfl]; rfl
  cases hdt : d.2.2.2.1 with
  | true =>
    have F11 : ¬ M.1 37 11 = 0 := by rw [e1, hdt]; decide
    have K := fin 1 (by rw [hdt]; rfl)
    refine sg_M_readRow_37_221 M _ _ _ ?_ ?_ ?_ ?_ ?_ ?_ ?_ ?_ ?_ ?_ ?_ ?_ ?_ ?_ ?_ ?_ ?_ ?_ ?_ ?_ ?_ ?_ ?_ ?_ ?_
    all_goals intros
    all_goals first | with_reducible exact absurd h9 (by assumption) | with_reducible exact absurd (by assumption) h9 | with_reducible exact absurd E108 (by assumption) | with_reducible exact absurd (by assumption) E100 | with_reducible exact absurd (by assumption) E111 | with_reducible exact absurd (by assumption) F11 | with_reducible exact K
  | false =>
    have F11 : M.1 37 11 = 0 := by rw [e1, hdt]; rfl
    have K := fin 0 (by rw [hdt]; rfl)
    refine sg_M_readRow_37_221 M _ _ _ ?_ ?_ ?_ ?_ ?_ ?_ ?_ ?_ ?_ ?_ ?_ ?_ ?_ ?_ ?_ ?_ ?_ ?_ ?_ ?_ ?_ ?_ ?_ ?_ ?_
    all_goals intros
    all_goals first | with_reducible exact absurd h9 (by assumption) | with_reducible exact absurd (by assumption) h9 | with_reducible exact absurd E108 (by assumption) | with_reducible exact absurd (by assumption) E100 | with_reducible exact absurd (by assumption) E111 | with_reducible exact absurd F11 (by assumption) | with_reducible exact K
theorem cel_end100 {t : List Nat} {P x y : Nat} {d : Dr} {M : Mem} {Q : Option Value → Mem → Prop} (hk : 4 * y + x < 16) (hm : TM t P M) (h9 : M.1 37 17 = -9) (hd : RDm d M) (hQ : ∀ M', TM t P M' → M'.1 37 17 = -9 → RDm ((pW d.1, pR d.1, pL d.1, addB (pD d.1) (4 * y + x), pO d.1), d.2.1, d.2.2.1, (d.2.2.2.1, d.2.2.2.2.1, true)) M' → FDm M M' → Q none M') : WX mi_M_readRow 5 Q 221 [some (.ref 37), some (.int (nI 100)), some (.int (nI x)), none, none] [.int (nI y)] M := by
  obtain ⟨⟨a1, a2, a3, a4, a5⟩, b', c', e1, e2, e3⟩ := hd
  have ek : (4 * nI y) + nI x = nI (4 * y + x) := by rw [show (4 : Int32) = nI 4 from rfl, nI_mul, nI_add]
  have E108 : ¬ nI 100 = 108 := by decide
  have E100 : nI 100 = 100 := rfl
  have E111 : ¬ nI 100 = 111 := by decide
  have fin : ∀ v : Int32, v = bI d.2.2.2.1 → Q none (wr (wr (wr (wr (wr M 37 10 1) 41 1 ((M.1 41 1) ||| 0)) 42 1 ((M.1 42 1) ||| (shl 1 ((4 * nI y) + nI x)))) 43 1 (M.1 43 1)) 37 11 v) := by
    intro v hv
    refine hQ _ (((((hm.keep (Or.inr (Or.inl (by decide))) _).keep (Or.inl (by decide)) _).keep (Or.inl (by decide)) _).keep (Or.inl (by decide)) _).keep (Or.inr (Or.inl (by decide))) _) ?_ ⟨⟨?_, ?_, ?_, ?_, ?_⟩, fun k hk ht => ?_, fun z hz => ?_, ?_, ?_, ?_⟩ ((((((FDm.refl M).s7 ⟨by decide, by decide⟩ _).s1 ⟨by decide, by decide⟩ _).s1 ⟨by decide, by decide⟩ _).s1 ⟨by decide, by decide⟩ _).s7 ⟨by decide, by decide⟩ _)
    · rw [upd_row, if_neg (by decide), wr_ne _ (by decide), wr_ne _ (by decide), wr_ne _ (by decide), upd_row, if_neg (by decide)]; exact h9
    · rw [wr_ne _ (by decide), wr_ne _ (by decide), wr_ne _ (by decide), wr_ne _ (by decide), wr_ne _ (by decide)]; exact a1
    · rw [wr_ne _ (by decide), wr_ne _ (by decide), wr_ne _ (by decide), wr_ne _ (by decide), wr_ne _ (by decide)]; exact a2
    · rw [wr_ne _ (by decide), upd_row, if_pos rfl]; exact a3
    · rw [wr_ne _ (by decide), wr_ne _ (by decide), wr_ne _ (by decide), upd_row, if_pos rfl, or0]; exact a4
    · rw [wr_ne _ (by decide), wr_ne _ (by decide), upd_row, if_pos rfl, a5, ek, sI_one hk, sI_or]; rfl
    · rw [wr_ne _ (by decide), wr_ne _ (by decide), wr_ne _ (by decide), wr_ne _ (by decide), wr_ne _ (by decide)]; exact b' k hk ht
    · rw [wr_ne _ (by decide), wr_ne _ (by decide), wr_ne _ (by decide), wr_ne _ (by decide), wr_ne _ (by decide)]; exact c' z hz
    · rw [upd_row, if_pos rfl]; exact hv
    · rw [upd_row, if_neg (by decide), wr_ne _ (by decide), wr_ne _ (by decide), wr_ne _ (by decide), upd_row, if_neg (by decide)]; exact e2
    · rw [upd_row, if_neg (by decide), wr_ne _ (by decide), wr_ne _ (by decide), wr_ne _ (by decide), upd_row, if_pos rfl]; rfl
  cases hdt : d.2.2.2.1 with
  | true =>
    have F11 : ¬ M.1 37 11 = 0 := by rw [e1, hdt]; decide
    have K := fin 1 (by rw [hdt]; rfl)
    refine sg_M_readRow_37_221 M _ _ _ ?_ ?_ ?_ ?_ ?_ ?_ ?_ ?_ ?_ ?_ ?_ ?_ ?_ ?_ ?_ ?_ ?_ ?_ ?_ ?_ ?_ ?_ ?_ ?_ ?_
    all_goals intros
    all_goals first | with_reducible exact absurd h9 (by assumption) | with_reducible exact absurd (by assumption) h9 | with_reducible exact absurd (by assumption) E108 | with_reducible exact absurd E100 (by assumption) | with_reducible exact absurd (by assumption) E111 | with_reducible exact absurd (by assumption) F11 | with_reducible exact K
  | false =>
    have F11 : M.1 37 11 = 0 := by rw [e1, hdt]; rfl
    have K := fin 0 (by rw [hdt]; rfl)
    refine sg_M_readRow_37_221 M _ _ _ ?_ ?_ ?_ ?_ ?_ ?_ ?_ ?_ ?_ ?_ ?_ ?_ ?_ ?_ ?_ ?_ ?_ ?_ ?_ ?_ ?_ ?_ ?_ ?_ ?_
    all_goals intros
    all_goals first | with_reducible exact absurd h9 (by assumption) | with_reducible exact absurd (by assumption) h9 | with_reducible exact absurd (by assumption) E108 | with_reducible exact absurd E100 (by assumption) | with_reducible exact absurd (by assumption) E111 | with_reducible exact absurd F11 (by assumption) | with_reducible exact K
theorem cel_bad {c : Nat} {x2 r : Int32} {M : Mem} {Q : Option Value → Mem → Prop} (h9 : ¬ M.1 37 17 = -9) (hQ : Q none (wr M 37 10 1)) : WX mi_M_readRow 5 Q 221 [some (.ref 37), some (.int (nI c)), some (.int x2), none, none] [.int r] M := by
  refine sg_M_readRow_37_221 M _ _ _ ?_ ?_ ?_ ?_ ?_ ?_ ?_ ?_ ?_ ?_ ?_ ?_ ?_ ?_ ?_ ?_ ?_ ?_ ?_ ?_ ?_ ?_ ?_ ?_ ?_
  all_goals intros
  all_goals first | with_reducible exact hQ | with_reducible exact absurd (by assumption) h9
theorem cel_M {t : List Nat} (ht : Txt t) {c P : Nat} {d : Dr} {M : Mem} {Q : Option Value → Mem → Prop} (hc : c = 111 ∨ c = 108 ∨ c = 100) (hdt : c = 111 → d.2.2.2.1 = false) (hW : pW d.1 ≤ 4) (hR : pR d.1 ≤ 4) (hr : RMt t M) (hm : TM t P M) (h9 : M.1 37 17 = -9) (hP : P ≤ t.length) (hd : RDm d M) (hQ : OutM Q t M (celF t c P d)) : WX mi_M_readRow 5 Q 0 [some (.ref 37), some (.int (nI c)), none, none, none] [] M := by
  have hl := ht.1
  have ne : ∀ l, l < 256 → ¬ c = l → ¬ nI c = nI l := fun l hl h q => h ((nI_eq (by omega) (by omega)).mp q)
  refine sg_M_readRow_37_0 M _ (fun q => absurd q (ne 114 (by decide) (by omega))) (fun q => absurd q (ne 115 (by decide) (by omega))) (fun q => absurd q (ne 119 (by decide) (by omega))) (fun _ _ _ => ?_)
  rw [hd.1.1]
  refine wx_numM (l := 0) (n := pW d.1) ht hr hm h9 hP (bnd_m hW) (fun x M1 e a f => ?_) (fun r e => ?_)
  · have hd1 := hd.ft f
    have s := nm_step e
    have hx := (nm_some e).2.2.2
    have h91 : M1.1 37 17 = -9 := by rw [f.2.1 17 (by decide)]; exact h9
    have b := (mS_all t (tkE t P)).2.2.1
    rw [← a.2.2.1] at b
    have no : nmF t (tkE t P) 0 (pR d.1) = none → WX mi_M_due 3 (fun rv M' => WX mi_M_readRow 5 Q 221 [some (.ref 37), some (.int (nI c)), some (.int (nI x)), none, none] (rv.toList ++ []) M') 0 [some (.ref 37), some (.int 0), none] [] M1 := by
      intro e2
      have hS := tkS_le (t := t) s.2
      refine due_0 a h91 ?_
      refine cel_bad (by rw [upd_row, if_pos rfl]; exact fnine (by omega)) ?_
      refine hQ.1 (tkS t (tkE t P)) _ ?_ (by rw [upd_row, if_neg (by decide), upd_row, if_pos rfl]) (f.fd.trans (((FDm.refl M1).s7 ⟨by decide, by decide⟩ _).s7 ⟨by decide, by decide⟩ _))
      unfold celF
      rw [e]
      dsimp only
      rw [e2]
    have yes : ∀ y, nmF t (tkE t P) 0 (pR d.1) = some y → M1.1 37 16 = nI y → (c = 111 ∨ ¬ (pL d.1 (4 * y + x) || pD d.1 (4 * y + x)) = true) → WX mi_M_due 3 (fun rv M' => WX mi_M_readRow 5 Q 221 [some (.ref 37), some (.int (nI c)), some (.int (nI x)), none, none] (rv.toList ++ []) M') 0 [some (.ref 37), some (.int 1), none] [] M1 := by
      intro y e2 ev hor
      have hy := (nm_some e2).2.2.2
      have hk : 4 * y + x < 16 := by omega
      have eF : celF t c P d = (if c = 111 then .inr (tkE t (tkE t P), ((pW d.1, pR d.1, pL d.1, pD d.1, 4 * y + x), d.2.1, d.2.2.1, (true, d.2.2.2.2.1, true)))
          else if (pL d.1 (4 * y + x) || pD d.1 (4 * y + x)) = true then .inl (tkS t (tkE t P))
          else if c = 108 then .inr (tkE t (tkE t P), ((pW d.1, pR d.1, addB (pL d.1) (4 * y + x), pD d.1, pO d.1), d.2.1, d.2.2.1, (d.2.2.2.1, d.2.2.2.2.1, true)))
          else .inr (tkE t (tkE t P), ((pW d.1, pR d.1, pL d.1, addB (pD d.1) (4 * y + x), pO d.1), d.2.1, d.2.2.1, (d.2.2.2.1, d.2.2.2.2.1, true)))) := by
        unfold celF
        rw [e]
        dsimp only
        rw [e2]
      rw [eF] at hQ
      refine due_1 ht (hr.ft f) a h91 s.2 (fun M2 g1 g2 => ?_)
      rw [ev]
      have hd2 := hd1.ft g2
      have h92 : M2.1 37 17 = -9 := by rw [g2.2.1 17 (by decide)]; exact h91
      have f2 := f.fd.trans g2.fd
      by_cases c1 : c = 111
      · rw [if_pos c1] at hQ
        subst c1
        exact cel_end111 hk (hdt rfl) g1 h92 hd2 (fun M3 q1 q2 q3 q4 => hQ.2 _ _ M3 rfl q1 q2 q3 (f2.trans q4))
      · rw [if_neg c1] at hQ
        have nb := hor.resolve_left c1
        rw [if_neg nb] at hQ
        by_cases c2 : c = 108
        · rw [if_pos c2] at hQ
          subst c2
          exact cel_end108 hk g1 h92 hd2 (fun M3 q1 q2 q3 q4 => hQ.2 _ _ M3 rfl q1 q2 q3 (f2.trans q4))
        · rw [if_neg c2] at hQ
          have c3 : c = 100 := by omega
          subst c3
          exact cel_end100 hk g1 h92 hd2 (fun M3 q1 q2 q3 q4 => hQ.2 _ _ M3 rfl q1 q2 q3 (f2.trans q4))
    have val : M1.1 37 15 = 1 → ∃ y, tkV t (tkE t P) = some y ∧ tkK t (tkE t P) = 2 ∧ M1.1 37 16 = nI y ∧ y < 1000 := fun q => by
      obtain ⟨k, v, hv⟩ := b.mp q
      exact ⟨v, hv, k, a.2.2.2 k v hv, tkV_lt hv k⟩
    have bit : ∀ y, y < pR d.1 → M1.1 37 16 = nI y → (shr ((M1.1 41 1) ||| (M1.1 42 1)) ((4 * (M1.1 37 16)) + nI x)) &&& 1 = bI (pL d.1 (4 * y + x) || pD d.1 (4 * y + x)) := by
      intro y hy ev
      rw [ev, hd1.1.2.2.2.1, hd1.1.2.2.2.2, sI_or, show (4 : Int32) = nI 4 from rfl, nI_mul, nI_add, bit_at (by omega), bt_sI _ (by omega), decide_eq_true (show 4 * y + x < 16 by omega)]
      simp
    have hRy : ∀ y, y < 1000 → M1.1 37 16 = nI y → (M1.1 40 1 ≤ M1.1 37 16 ↔ pR d.1 ≤ y) := fun y hy ev => by
      rw [hd1.1.2.1, ev]
      exact nI_le_iff (by omega) (by omega)
    refine sg_M_readRow_37_157 M1 _ _ (fun q => no ?_) (fun q q2 => no ?_) (fun q q2 q3 => ?_) (fun q q2 q3 q4 => ?_) (fun q q2 q3 q4 => ?_)
    · by_cases k : tkK t (tkE t P) = 2
      · cases hv : tkV t (tkE t P) with
        | none => exact nm_v hv
        | some v => exact absurd (b.mpr ⟨k, v, hv⟩) q
      · exact nm_k k
    · obtain ⟨y, hv, hk, ev, hlt⟩ := val q
      rw [hRy y hlt ev] at q2
      exact nm_no hv (by omega)
    · obtain ⟨y, hv, hk, ev, hlt⟩ := val q
      rw [hRy y hlt ev] at q2
      exact yes y (nm_of hv hk (Nat.zero_le y) (by omega)) ev (Or.inl ((nI_eq (b := 111) (by omega) (by decide)).mp q3))
    · obtain ⟨y, hv, hk, ev, hlt⟩ := val q
      rw [hRy y hlt ev] at q2
      rw [bit y (by omega) ev, bI_0] at q4
      have q4 : (pL d.1 (4 * y + x) || pD d.1 (4 * y + x)) = true := by
        cases z : (pL d.1 (4 * y + x) || pD d.1 (4 * y + x)) with
        | true => rfl
        | false => exact absurd z q4
      have e2 := nm_of hv hk (Nat.zero_le y) (show y < pR d.1 by omega)
      have hS := tkS_le (t := t) s.2
      refine due_0 a h91 ?_
      refine cel_bad (by rw [upd_row, if_pos rfl]; exact fnine (by omega)) ?_
      refine hQ.1 (tkS t (tkE t P)) _ ?_ (by rw [upd_row, if_neg (by decide), upd_row, if_pos rfl]) (f.fd.trans (((FDm.refl M1).s7 ⟨by decide, by decide⟩ _).s7 ⟨by decide, by decide⟩ _))
      unfold celF
      rw [e]
      dsimp only
      rw [e2]
      dsimp only
      rw [if_neg (fun z => q3 (by rw [z]; rfl)), if_pos q4]
    · obtain ⟨y, hv, hk, ev, hlt⟩ := val q
      rw [hRy y hlt ev] at q2
      rw [bit y (by omega) ev, bI_0] at q4
      exact yes y (nm_of hv hk (Nat.zero_le y) (by omega)) ev (Or.inr (by rw [q4]; decide))
  · have hS := tkS_le (t := t) hP
    have e17 : (wr M 37 17 (nI (tkS t P))).1 37 17 = nI (tkS t P) := by rw [upd_row, if_pos rfl]
    have h9' : ¬ (wr M 37 17 (nI (tkS t P))).1 37 17 = -9 := by rw [e17]; exact fnine (by omega)
    have K : ∀ x : Int32, WX mi_M_due 3 (fun rv M' => WX mi_M_readRow 5 Q 221 [some (.ref 37), some (.int (nI c)), some (.int r), none, none] (rv.toList ++ []) M') 0 [some (.ref 37), some (.int x), none] [] (wr M 37 17 (nI (tkS t P))) := fun x => by
      refine due_x h9' ?_
      refine cel_bad h9' ?_
      exact hQ.1 (tkS t P) _ (by unfold celF; rw [e]) (by rw [upd_row, if_neg (by decide)]; exact e17) (((FDm.refl M).s7 ⟨by decide, by decide⟩ _).s7 ⟨by decide, by decide⟩ _)
    exact sg_M_readRow_37_157 _ _ _ (fun _ => K _) (fun _ _ => K _) (fun _ _ _ => K _) (fun _ _ _ _ => K _) (fun _ _ _ _ => K _)
theorem may_c {c i : Nat} {d : Dr} (h : mayF c i d = true) : c = 119 ∨ c = 114 ∨ c = 115 ∨ (c = 111 ∨ c = 108 ∨ c = 100) := by
  refine Decidable.byContradiction (fun q => ?_)
  rw [may_x (by omega) (by omega) (by omega) (by omega) (by omega) (by omega)] at h
  cases h
theorem read_M {t : List Nat} (ht : Txt t) {c i P : Nat} {d : Dr} {M : Mem} {Q : Option Value → Mem → Prop} (hw : WfD d) (h0 : i = 0 → pR d.1 = 0) (hmay : mayF c i d = true) (hr : RMt t M) (hm : TM t P M) (h9 : M.1 37 17 = -9) (hP : P ≤ t.length) (hd : RDm d M) (hQ : OutM Q t M (itmF t c P d)) : WX mi_M_readRow 5 Q 0 [some (.ref 37), some (.int (nI c)), none, none, none] [] M := by
  rcases may_c hmay with rfl | rfl | rfl | hc
  · have hi : decide (i = 0) = true := hmay
    have hQ : OutM Q t M (widF t P d) := hQ
    exact wid_M ht (h0 (by simpa using hi)) hr hm h9 hP hd hQ
  · have hQ : OutM Q t M (rwsF t P d) := hQ
    refine sg_M_readRow_37_0 M _ (fun _ => ?_) (fun q => absurd q (by decide)) (fun q => absurd q (by decide)) (fun q => absurd rfl q)
    refine row_M ht hw.1.1 (may_r hmay).2.2 P (pW d.1) 0 P d.2.1 M (Nat.zero_add _) hP hr hm h9 hd (fun k hk h => ?_) (FDm.refl M) rfl hQ
    rcases h with h | h
    · exact hd.2.1 k hk h
    · omega
  · have hQ : OutM Q t M (stkF t P d) := hQ
    refine sg_M_readRow_37_0 M _ (fun q => absurd q (by decide)) (fun _ => ?_) (fun q => absurd q (by decide)) (fun _ q => absurd rfl q)
    exact sto_M ht P 4 0 P d.2.2.1 M rfl hP hr hm h9 hd (FDm.refl M) rfl hQ
  · have hQ : OutM Q t M (celF t c P d) := by
      unfold itmF at hQ
      rw [if_neg (by omega), if_neg (by omega), if_neg (by omega)] at hQ
      exact hQ
    refine cel_M ht hc (fun q => ?_) hw.1.1 hw.1.2.1 hr hm h9 hP hd hQ
    subst q
    have hmay : (decide (0 < pW d.1) && !d.2.2.2.1) = true := hmay
    rw [Bool.and_eq_true, Bool.not_eq_true'] at hmay
    exact hmay.2
theorem may_M {i c : Nat} {d : Dr} {M : Mem} (hw : WfD d) (hd : RDm d M) (hc : c < 256) (hi : i < 1000) : z_M_mayBe_37 M (nI c) (nI i) = bI (mayF c i d) := by
  have h1 := hw.1.1
  have h2 := hw.1.2.1
  have tW : M.1 39 1 ≤ 0 ↔ ¬ 0 < pW d.1 := by rw [hd.1.1, nI_le0 (by omega)]; omega
  have tR : 4 ≤ M.1 40 1 ↔ ¬ pR d.1 < 4 := by
    rw [hd.1.2.1]
    refine (nI_le_iff (a := 4) (by decide) (by omega)).trans ?_
    omega
  have t7 : M.1 37 11 = 0 ↔ d.2.2.2.1 = false := by rw [hd.2.2.2.1, bI_0]
  have t8 : M.1 37 12 = 0 ↔ d.2.2.2.2.1 = false := by rw [hd.2.2.2.2.1, bI_0]
  have t9 : M.1 37 10 = 0 ↔ d.2.2.2.2.2 = false := by rw [hd.2.2.2.2.2, bI_0]
  have ti : nI i = 0 ↔ i = 0 := nI_is0 (by omega)
  have ne : ∀ l, l < 256 → (nI c = nI l ↔ c = l) := fun l hl => nI_eq (by omega) (by omega)
  have iff_b : ∀ {p : Prop} [Decidable p] (b : Bool), (p ↔ b = false) → (if p then (1 : Int32) else 0) = bI (!b) := fun b h => by
    cases b with
    | true => rw [if_neg (fun q => by cases h.mp q)]; rfl
    | false => rw [if_pos (h.mpr rfl)]; rfl
  unfold z_M_mayBe_37
  by_cases c1 : c = 100
  · subst c1
    rw [if_pos (show nI 100 = 100 from rfl), show mayF 100 i d = decide (0 < pW d.1) from rfl]
    by_cases w : 0 < pW d.1
    · rw [if_neg (fun q => tW.mp q w), decide_eq_true w]; rfl
    · rw [if_pos (tW.mpr w), decide_eq_false w]; rfl
  · rw [if_neg (show ¬ nI c = 100 from fun q => c1 ((ne 100 (by decide)).mp q))]
    by_cases c2 : c = 108
    · subst c2
      rw [if_pos (show nI 108 = 108 from rfl), show mayF 108 i d = decide (0 < pW d.1) from rfl]
      by_cases w : 0 < pW d.1
      · rw [if_neg (fun q => tW.mp q w), decide_eq_true w]; rfl
      · rw [if_pos (tW.mpr w), decide_eq_false w]; rfl
    · rw [if_neg (show ¬ nI c = 108 from fun q => c2 ((ne 108 (by decide)).mp q))]
      by_cases c3 : c = 111
      · subst c3
        rw [if_pos (show nI 111 = 111 from rfl), show mayF 111 i d = (decide (0 < pW d.1) && !d.2.2.2.1) from rfl]
        by_cases w : 0 < pW d.1
        · rw [if_neg (fun q => tW.mp q w), decide_eq_true w, Bool.true_and]
          exact iff_b _ t7
        · rw [if_pos (tW.mpr w), decide_eq_false w]; rfl
      · rw [if_neg (show ¬ nI c = 111 from fun q => c3 ((ne 111 (by decide)).mp q))]
        by_cases c4 : c = 114
        · subst c4
          rw [if_pos (show nI 114 = 114 from rfl), show mayF 114 i d = (decide (0 < pW d.1) && !d.2.2.2.2.2 && decide (pR d.1 < 4)) from rfl]
          by_cases w : 0 < pW d.1
          · rw [if_neg (fun q => tW.mp q w), decide_eq_true w, Bool.true_and]
            by_cases r : pR d.1 < 4
            · rw [if_neg (fun q => tR.mp q r), decide_eq_true r, Bool.and_true]
              exact iff_b _ t9
            · rw [if_pos (tR.mpr r), decide_eq_false r, Bool.and_false]; rfl
          · rw [if_pos (tW.mpr w), decide_eq_false w]; rfl
        · rw [if_neg (show ¬ nI c = 114 from fun q => c4 ((ne 114 (by decide)).mp q))]
          by_cases c5 : c = 115
          · subst c5
            rw [if_pos (show nI 115 = 115 from rfl), show mayF 115 i d = !d.2.2.2.2.1 from rfl]
            exact iff_b _ t8
          · rw [if_neg (show ¬ nI c = 115 from fun q => c5 ((ne 115 (by decide)).mp q))]
            by_cases c6 : c = 119
            · subst c6
              rw [if_pos (show nI 119 = 119 from rfl), show mayF 119 i d = decide (i = 0) from rfl]
              by_cases z : i = 0
              · rw [if_pos (ti.mpr z), decide_eq_true z]; rfl
              · rw [if_neg (fun q => z (ti.mp q)), decide_eq_false z]; rfl
            · rw [if_neg (show ¬ nI c = 119 from fun q => c6 ((ne 119 (by decide)).mp q)), may_x c6 c4 c5 c3 c1 c2]
              rfl
theorem may_0 {M : Mem} {x : Int32} {s : Int32} (h : s = 1 ∨ s = 2 ∨ s = 3 ∨ s = 4) : z_M_mayBe_37 M s x = 0 := by
  unfold z_M_mayBe_37
  rcases h with rfl | rfl | rfl | rfl <;> rw [if_neg (by decide), if_neg (by decide), if_neg (by decide), if_neg (by decide), if_neg (by decide), if_neg (by decide)]
