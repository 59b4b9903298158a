/-! ===== the two yards changed about: what holds of one, holds of the other ===== -/
/-- the first yard's places 0 .. 36, the second's 37 .. 73 -/
def sg (q : Nat) : Nat := if q < 37 then q + 37 else if q < 74 then q - 37 else q
theorem sg_sg (q : Nat) : sg (sg q) = q := by
  unfold sg
  by_cases h : q < 37
  · rw [if_pos h, if_neg (by omega), if_pos (by omega)]; omega
  · by_cases h2 : q < 74
    · rw [if_neg h, if_pos h2, if_pos (by omega)]; omega
    · rw [if_neg h, if_neg h2, if_neg h, if_neg h2]
theorem sg_lt {q : Nat} (h : q < nPl) : sg q < nPl := by
  have h' : q < 74 := h
  show sg q < 74
  unfold sg
  by_cases h : q < 37
  · rw [if_pos h]; omega
  · rw [if_neg h, if_pos h']; omega
theorem sg_far {q : Nat} (h : 74 ≤ q) : sg q = q := by
  unfold sg
  rw [if_neg (by omega), if_neg (by omega)]
def swp (M : Mem) : Mem := (fun q => M.1 (sg q), fun q => M.2 (sg q))
theorem swp_swp (M : Mem) : swp (swp M) = M := by
  unfold swp
  simp only [sg_sg]
def sgV (v : Value) : Value := rl sg v
theorem sgV_sgV (v : Value) : sgV (sgV v) = v := by
  cases v <;> try rfl
  show Value.ref (sg (sg _)) = _
  rw [sg_sg]
def Gs (G : Gx) : Gx := (G.1, fun q => G.2.1 (sg q), G.2.2.1, G.2.2.2)
theorem Gs_Gs (G : Gx) : Gs (Gs G) = G := by
  unfold Gs
  simp only [sg_sg]
theorem rl_sg (G : Gx) (v : Value) : rl G.2.1 (sgV v) = rl (Gs G).2.1 v := by cases v <;> rfl
theorem rl_sgs (G : Gx) : (fun v => rl G.2.1 (sgV v)) = rl (Gs G).2.1 := funext (rl_sg G)
/-- a field's code for the other yard -/
def sgC (c : Nat) : Nat := match c with
  | 0 => 0
  | 1 => 1
  | q + 2 => sg q + 2
theorem lay_sg : ∀ p, p < 74 → layF (sg p) = ((layF p).1, (layF p).2.1, (layF p).2.2.map sgC) := by decide +kernel
theorem fv_sg (G : Gx) (M : Mem) (p k c : Nat) : rl (Gs G).2.1 (fvA M p k c) = rl G.2.1 (fvA (swp M) (sg p) k (sgC c)) := by
  match c with
  | 0 => show Value.int (M.1 p k) = Value.int (M.1 (sg (sg p)) k); rw [sg_sg]
  | 1 => show Value.long (M.2 p) = Value.long (M.2 (sg (sg p))); rw [sg_sg]
  | q + 2 => rfl
theorem cell_sg (G : Gx) (M : Mem) {p : Nat} (h : p < 74) : cellE (Gs G) M p (layF p) = cellE G (swp M) (sg p) (layF (sg p)) := by
  rw [lay_sg p h]
  unfold cellE
  dsimp only
  by_cases hc : (layF p).1 < 7
  · rw [if_pos hc, if_pos hc]
    congr 2
    apply List.ext_getElem?
    intro i
    rw [List.getElem?_mapIdx, List.getElem?_mapIdx, List.getElem?_map]
    cases (layF p).2.2[i]? with
    | none => rfl
    | some c => exact congrArg some (fv_sg G M p i c)
  · rw [if_neg hc, if_neg hc]
    show Sum.inl ((Gs G).2.2.1 (layF p).1, (layF p).2.1, Sum.inl (M.1 p)) = Sum.inl (G.2.2.1 (layF p).1, (layF p).2.1, Sum.inl (M.1 (sg (sg p))))
    rw [sg_sg]
    rfl
theorem wl_sg (G : Gx) (M : Mem) (k : Nat) (h : k < 74) : (wl (Gs G) M)[k]? = (wl G (swp M))[sg k]? := by
  rw [wl_at (Gs G) M (show k < nPl from h), wl_at G (swp M) (sg_lt h), cell_sg G M h]
  rfl
theorem Rp_sg {G : Gx} {s : State} {M : Mem} {H : Heap} {locs : List Loc} (h : Rp G s (swp M) H locs) : Rp (Gs G) s M H locs := by
  obtain ⟨hP, hD, hS, hW⟩ := h
  refine ⟨fun k q hk => ?_, ⟨fun i j p q hi hj e => ?_, fun k q hk => ?_⟩, hS, ?_⟩
  · by_cases hl : k < 74
    · rw [wl_sg G M k hl] at hk
      exact hP (sg k) q hk
    · rw [wl_no (Gs G) M hl] at hk
      cases hk
  · by_cases hl : i < 74
    · by_cases hl2 : j < 74
      · rw [wl_sg G M i hl] at hi
        rw [wl_sg G M j hl2] at hj
        have := hD.1 (sg i) (sg j) p q hi hj e
        have := congrArg sg this
        rwa [sg_sg, sg_sg] at this
      · rw [wl_no (Gs G) M hl2] at hj
        cases hj
    · rw [wl_no (Gs G) M hl] at hi
      cases hi
  · by_cases hl : k < 74
    · rw [wl_sg G M k hl] at hk
      exact hD.2 (sg k) q hk
    · rw [wl_no (Gs G) M hl] at hk
      cases hk
  · obtain ⟨N, a, b, c⟩ := hW
    have e1 : (swp M).1 104 = M.1 104 := congrArg M.1 (sg_far (by decide))
    have e2 : (swp M).1 105 = M.1 105 := congrArg M.1 (sg_far (by decide))
    rw [e1] at a
    rw [e2] at b
    refine ⟨N, ?_, b, c⟩
    show va_T .int (G.2.1 (sg 104)) N _ G.2.2.2 s s.heap
    rw [sg_far (by decide)]
    exact a
theorem gl_sg (L : List (Option Value)) (i : Nat) : gl (L.map (Option.map sgV)) i = (gl L i).map sgV := by
  unfold gl
  rw [List.getD_eq_getElem?_getD, List.getD_eq_getElem?_getD, List.getElem?_map]
  cases L[i]? <;> rfl
theorem al_sg (G : Gx) (L : List (Option Value)) : al G.2.1 (L.map (Option.map sgV)) = al (Gs G).2.1 L := by
  unfold al
  rw [List.length_map]
  refine congrArg (fun f => List.filterMap f (List.range L.length)) (funext fun i => ?_)
  rw [gl_sg]
  cases gl L i with
  | none => rfl
  | some v => exact congrArg (fun x => some (i, x)) (rl_sg G v)
theorem sgV_cat (v : Value) : (sgV v).category = v.category := rl_cat sg v
theorem LR_sg {G : Gx} {nL : Nat} {L : List (Option Value)} {ls : Array Slot} : LR G.2.1 nL (L.map (Option.map sgV)) ls ↔ LR (Gs G).2.1 nL L ls := by
  unfold LR
  rw [List.length_map, al_sg]
  refine and_congr_right fun _ => and_congr_right fun _ => ⟨fun h i v hv => ?_, fun h i v hv => ?_⟩
  · rw [← sgV_cat]
    exact h i (sgV v) (by rw [gl_sg, hv]; rfl)
  · rw [gl_sg] at hv
    cases hg : gl L i with
    | none => rw [hg] at hv; cases hv
    | some w =>
      rw [hg] at hv
      cases hv
      rw [sgV_cat]
      exact h i w hg
theorem st_sg (G : Gx) (st : List Value) : (st.map sgV).map (rl G.2.1) = st.map (rl (Gs G).2.1) := by
  rw [List.map_map]
  exact congrArg (fun f => List.map f st) (rl_sgs G)
section SWP
variable {p : Program} {l : Launch} {e : Env} {R : Room} {s : State} {m : MethodId} {args : Array Value} {below : List Frame} {meth : Method} {c : Code} {cells slots : Nat} {Qr : State → Prop} {G : Gx}
variable {mi : Mi} {d nL : Nat} {pc : Nat} {L : List (Option Value)} {st : List Value} {M : Mem}
theorem Wt_sg (h : Wt p l e R s m args below meth c cells slots Qr (Gs G) nL pc L st M) : Wt p l e R s m args below meth c cells slots Qr G nL pc (L.map (Option.map sgV)) (st.map sgV) (swp M) := by
  intro H locs ls hR hL
  rw [st_sg]
  exact h H locs ls (Rp_sg hR) (LR_sg.mp hL)
theorem WF_sg (h : WF G s) : WF (Gs G) s := by
  obtain ⟨a, b, c⟩ := h
  refine ⟨a, b, fun j hj => ?_⟩
  show va_Z "SlabYard" (stN j) "[I" (.ref (G.2.1 (sg (100 + j)))) _ _ _ ∧ va_T .int (G.2.1 (sg (100 + j))) 4 _ _ _ _
  rw [sg_far (by omega)]
  exact c j hj
theorem CX_sg (h : CX G mi d p R s m args c cells slots) : CX (Gs G) mi d p R s m args c cells slots := by
  obtain ⟨h1, h2, h3, h4, h5, h6, h7, h8, h9, h10, h11⟩ := h
  exact ⟨h1, h2, h3, h4, h5, h6, h7, h8, h9, WF_sg h10, h11⟩
theorem mapV_mapV (st : List Value) : (st.map sgV).map sgV = st := by
  rw [List.map_map, show sgV ∘ sgV = id from funext sgV_sgV, List.map_id]
theorem mapO_mapO (L : List (Option Value)) : (L.map (Option.map sgV)).map (Option.map sgV) = L := by
  rw [List.map_map, show Option.map sgV ∘ Option.map sgV = id from funext fun o => by cases o <;> simp [sgV_sgV], List.map_id]
theorem RetOk_sg {ret : Option FieldType} {ins : Instr} {rv : Option Value} (h : RetOk ret ins st rv) : RetOk ret ins (st.map sgV) (rv.map sgV) := by
  rcases h with ⟨h1, h2, rfl, rfl⟩ | ⟨v, ty, h1, h2, rfl, rfl, h3⟩ | ⟨v, h1, h2, rfl, rfl⟩ | ⟨q, C, h1, h2, rfl, rfl⟩
  · exact Or.inl ⟨h1, h2, rfl, rfl⟩
  · exact Or.inr (Or.inl ⟨v, ty, h1, h2, rfl, rfl, h3⟩)
  · exact Or.inr (Or.inr (Or.inl ⟨v, h1, h2, rfl, rfl⟩))
  · exact Or.inr (Or.inr (Or.inr ⟨sg q, C, h1, h2, rfl, rfl⟩))
/-- what the method does to one yard, it does to the other -/
theorem WX.swap {Q : Option Value → Mem → Prop} (h : WX mi d (fun rv M1 => Q (rv.map sgV) (swp M1)) pc L st M) : WX mi d Q pc (L.map (Option.map sgV)) (st.map sgV) (swp M) := by
  intro p l e R s m args below meth c cells slots Qr G hC hE
  refine Wt_sg (h p l e R s m args below meth c cells slots Qr (Gs G) (CX_sg hC) (fun pc' L' st' M' ins rv h1 h2 h3 => ?_))
  have k := Wt_sg (G := Gs G) (L := L'.map (Option.map sgV)) (st := st'.map sgV) (M := swp M') (by rw [Gs_Gs]; exact hE pc' _ _ _ ins _ h1 (RetOk_sg h2) h3)
  rw [mapO_mapO, mapV_mapV, swp_swp] at k
  exact k
end SWP
