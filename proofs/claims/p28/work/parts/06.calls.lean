/-! ===== calls ===== -/
def Aof (ad : Nat → Nat) : Nat → Prop := fun q => ∃ k, k < nPl ∧ q = ad k
/-- the world at a call's start -/
def WP (G : Gx) (M : Mem) (U : State) : Prop := va_P G.1 vwCl (wl G M) U.heap ∧ va_D (Aof G.2.1) (wl G M) ∧ WF (G.1, G.2.1, G.2.2.1, Aof G.2.1) U ∧ WS (G.1, G.2.1, G.2.2.1, Aof G.2.1) M U
theorem nw_warm {s U : State} (hW : s.WarmedH U.vm) (h : ∀ w ∈ nwTbl, va_Nw w s) : ∀ w ∈ nwTbl, va_Nw w U := by
  intro w hw
  have h1 := h w hw
  have h2 := (List.mem_filter.mp hw).2
  cases w <;> first | (cases h2; done) | exact va_Nw.warmF hW h1 | exact va_Nw.warmM hW h1
theorem wl_A {G : Gx} {A' : Nat → Prop} {M : Mem} : wl (G.1, G.2.1, G.2.2.1, A') M = wl G M := rfl
theorem D_Aof {G : Gx} {A : Nat → Prop} {M : Mem} (h : va_D A (wl G M)) : va_D (Aof G.2.1) (wl G M) := by
  refine ⟨h.1, fun k q hk => ?_⟩
  by_cases hl : k < nPl
  · rw [wl_at G M hl] at hk
    cases hk
    exact ⟨k, hl, rfl⟩
  · rw [wl_no G M hl] at hk
    cases hk
theorem Aof_in {G : Gx} {A : Nat → Prop} {M : Mem} (h : va_D A (wl G M)) : ∀ q, Aof G.2.1 q → A q := by
  rintro q ⟨k, hk, rfl⟩
  exact h.2 k _ (wl_at G M hk)
theorem WP_of {G : Gx} {s U : State} {M : Mem} {H : Heap} {locs : List Loc} (hF : WF G s) (hR : Rp G s M H locs) (hU : U.heap = H) (hW : s.WarmedH U.vm) : WP G M U := by
  obtain ⟨hK, hN, hZ⟩ := hF
  obtain ⟨hP, hD, hS, N, hT, h1, h2⟩ := hR
  have hin := Aof_in hD
  have kp : ∀ a : Nat, a < s.heap.size → ¬ G.2.2.2 a → U.heap[a]? = s.heap[a]? := fun a x y => by rw [hU]; exact hS.2.1 a x y
  exact ⟨by rw [hU]; exact hP, D_Aof hD, ⟨va_K.moved hW.alike hK, nw_warm hW hN, fun j hj => ⟨((va_Z.moved hW.alike (hZ j hj).1).kept kp).narrow hin, ((va_T.moved hW.alike (hZ j hj).2).kept kp).narrow hin⟩⟩, N, ((va_T.moved hW.alike hT).kept kp).narrow hin, h1, h2⟩
theorem WP_blind {G : Gx} {M : Mem} {U : State} {g : JFrame} {mk : MethodId} {a : Array Value} (h : WP G M U) : WP G M (U.calling g mk a) := by
  obtain ⟨hP, hD, ⟨hK, hN, hZ⟩, N, hT, h1, h2⟩ := h
  exact ⟨hP, hD, ⟨va_K.moved (u := U) (U := U.calling g mk a) (Vm.Alike.refl U.vm) hK, fun w hw => by
      have h2 := (List.mem_filter.mp hw).2
      have h3 := hN w hw
      cases w <;> first | (cases h2; done) | exact va_Nw.same rfl rfl h3, fun j hj => ⟨va_Z.moved (u := U) (U := U.calling g mk a) (Vm.Alike.refl U.vm) (hZ j hj).1, va_T.moved (u := U) (U := U.calling g mk a) (Vm.Alike.refl U.vm) (hZ j hj).2⟩⟩, N, va_T.moved (u := U) (U := U.calling g mk a) (Vm.Alike.refl U.vm) hT, h1, h2⟩
theorem T_join {t N N' : Nat} {f f' : Nat → Value} {A A' : Nat → Prop} {s U : State} {H0 H : Heap} (h : va_T .int t N f A s H0) (h' : va_T .int t N' f' A' U H) (hk : H[t]? = H0[t]?) (hN : N < 2 ^ 31) (hN' : N' < 2 ^ 31) : N = N' ∧ ∀ j, j < N → f j = f' j := by
  obtain ⟨cell, a1, a2, a3, a4, a5, a6, a7⟩ := h
  obtain ⟨cell', b1, b2, b3, b4, b5, b6, b7⟩ := h'
  rw [hk, a1] at b1
  obtain rfl := Option.some.inj b1
  have e : N = N' := by
    have h1 : Int32.ofNat N = Int32.ofNat N' := a5.symm.trans b5
    have h2 := congrArg Int32.toNatClampNeg h1
    rwa [Int32.toNatClampNeg_ofNat_of_lt hN, Int32.toNatClampNeg_ofNat_of_lt hN'] at h2
  subst e
  refine ⟨rfl, fun j hj => ?_⟩
  have := (a6 j hj).symm.trans (b6 j hj)
  exact Option.some.inj this
theorem WS_join {G : Gx} {A' : Nat → Prop} {s U : State} {M M' : Mem} (h : WS G M s) (h' : WS (G.1, G.2.1, G.2.2.1, A') M' U) (hk : ∀ a : Nat, a < s.heap.size → ¬ G.2.2.2 a → U.heap[a]? = s.heap[a]?) : WS G M' s := by
  obtain ⟨N, hT, h1, h2⟩ := h
  obtain ⟨N', hT', h1', h2'⟩ := h'
  have hc := hT
  obtain ⟨cell, a1, a2, a3, a4, a5, a6, a7⟩ := hc
  obtain ⟨rfl, hf⟩ := T_join hT hT' (hk _ (Array.getElem?_eq_some_iff.mp a1).1 a7) h2 h2'
  exact ⟨N, ⟨cell, a1, a2, a3, a4, a5, fun j hj => (a6 j hj).trans (congrArg some (hf j hj)), a7⟩, h1', h2⟩
theorem lv_args_mem : ∀ (vs : List Value) (k i : Nat) (v : Value), (∀ w ∈ vs, w.category = 1) → vs[i]? = some v → (k + i, v) ∈ lv_args k vs
  | [], _, _, _, _, h => by simp at h
  | w :: vs, k, i, v, hc, h => by
    have hw : ¬ w.category = 2 := by rw [hc w List.mem_cons_self]; decide
    unfold lv_args
    rw [if_neg hw]
    cases i with
    | zero => cases h; exact List.mem_cons_self
    | succ i =>
      have := lv_args_mem vs (k + 1) i v (fun x hx => hc x (List.mem_cons_of_mem _ hx)) (by simpa using h)
      rw [show k + (i + 1) = k + 1 + i by omega]
      exact List.mem_cons_of_mem _ this
theorem lg_sl_len (vs : List Value) (hc : ∀ w ∈ vs, w.category = 1) : (lg_sl vs).length = vs.length := by
  induction vs with
  | nil => rfl
  | cons w vs ih =>
    have hw : ¬ w.category = 2 := by rw [hc w List.mem_cons_self]; decide
    have := ih (fun x hx => hc x (List.mem_cons_of_mem _ hx))
    simp only [lg_sl, List.flatMap_cons, if_neg hw, List.length_append, List.length_cons, List.length_nil] at this ⊢
    omega
/-- the locals at a method's start -/
def entL (nL : Nat) (vs : List Value) : List (Option Value) := vs.map some ++ List.replicate (nL - vs.length) none
theorem gl_ent {nL : Nat} {vs : List Value} {i : Nat} {v : Value} (h : gl (entL nL vs) i = some v) : vs[i]? = some v := by
  unfold gl entL at h
  rw [List.getD_eq_getElem?_getD] at h
  by_cases hi : i < vs.length
  · rw [List.getElem?_append_left (by simpa using hi), List.getElem?_map] at h
    cases hv : vs[i]? with
    | none => rw [hv] at h; cases h
    | some w => rw [hv] at h; exact h
  · rw [List.getElem?_append_right (by simpa using hi)] at h
    rw [List.getElem?_replicate] at h
    split at h <;> cases h
theorem LR_ent {ad : Nat → Nat} {nL : Nat} {vs : List Value} (hc : ∀ w ∈ vs, w.category = 1) (hn : vs.length ≤ nL) : LR ad nL (entL nL vs) ((lg_sl (vs.map (rl ad)) ++ List.replicate (nL - (lg_sl (vs.map (rl ad))).length) Slot.unset).toArray) := by
  have hc' : ∀ w ∈ vs.map (rl ad), w.category = 1 := by
    intro w hw
    obtain ⟨v, hv, rfl⟩ := List.mem_map.mp hw
    rw [rl_cat]
    exact hc v hv
  have h := lv_entry (vs.map (rl ad)) (n := nL) (by rw [lg_sl_len _ hc', List.length_map]; exact hn)
  refine ⟨by simp [entL]; omega, ⟨h.1, h.2.1, fun q hq => ?_⟩, fun i v hv => hc v (List.mem_of_getElem? (gl_ent hv))⟩
  obtain ⟨v, h1, h2⟩ := al_mem.mp hq
  have h3 : (vs.map (rl ad))[q.1]? = some q.2 := by rw [List.getElem?_map, gl_ent h1, h2]; rfl
  have h4 := lv_args_mem _ 0 _ _ hc' h3
  rw [Nat.zero_add] at h4
  exact h.2.2 q h4
/-- what the tables say of a method: it can be called -/
def CallOk (mi : Mi) (n : Nat) : Prop := Cond.code mi.2.2.2.2.1 mi.2.1 mi.2.2.1 mi.2.2.2.1 ∈ gTbl ∧ Cond.initialized mi.2.2.2.2.1.cls ∈ gTbl ∧ mi.2.2.2.2.1.cls = RXn mi.1 ∧ plainName mi.2.2.2.2.1.cls = true ∧
  (mi.2.2.2.2.1.cls ≠ "java/lang/invoke/MethodHandle" ∧ mi.2.2.2.2.1.cls ≠ "java/lang/invoke/VarHandle" ∧ (parseMethodDescriptor mi.2.2.2.2.1.desc).map (fun d => d.parameters.length) = some n) ∧ mi.2.2.1 ≤ 45 ∧ FOK mi.2.2.2.2.2 mi.2.1
def CallV (mi : Mi) : Prop := Cond.instanceMethod mi.2.2.2.2.1 ∈ gTbl ∧ Cond.selects mi.2.2.2.2.1.cls mi.2.2.2.2.1 mi.2.2.2.2.1 ∈ gTbl
def CallS (mi : Mi) : Prop := Cond.static mi.2.2.2.2.1 ∈ gTbl
def Lnk (o idx : Nat) (y : MethodName) : Prop := Cond.methodLink (RXn o) idx y ∈ gTbl
def LnkN (o idx : Nat) (y : MethodName) (host : String) : Prop := Cond.methodLinkNest (RXn o) idx y host ∈ lw_tbl
abbrev wsOf (mi : Mi) : List Cond := Cond.code mi.2.2.2.2.1 mi.2.1 mi.2.2.1 mi.2.2.2.1 :: gTbl
abbrev rmOf (d : Nat) : Room := { frames := d, cells := 0, slots := 0, locals := 64 * d }
def QcOf (G : Gx) (Q : Option Value → Mem → Prop) : Array Value → State → Outcome → State → Prop := fun _ st o t =>
  ∃ (rv : Option Value) (M' : Mem), o = .returned (rv.map (rl G.2.1)) ∧ Q rv M' ∧ va_P G.1 vwCl (wl G M') t.heap ∧ WS (G.1, G.2.1, G.2.2.1, Aof G.2.1) M' st ∧ va_F (Aof G.2.1) st t
theorem good_g {ws : List Cond} (h : ∀ w ∈ ws, w ∈ gTbl) : GoodIn gTbl ws := fun w hw => ⟨h w hw, good_of_word (List.mem_filter.mp (h w hw)).2⟩
theorem goodws {mi : Mi} {n : Nat} (h : CallOk mi n) : GoodIn gTbl (wsOf mi) := good_g fun w hw => by
  rcases List.mem_cons.mp hw with e | e
  · rw [e]; exact h.1
  · exact e
theorem lnkn_nw {o idx : Nat} {y : MethodName} {host : String} (h : LnkN o idx y host) : (Cond.methodLinkNest (RXn o) idx y host) ∈ nwTbl := List.mem_filter.mpr ⟨h, rfl⟩
/-- a contract out of the judgement -/
theorem met_of_WX {l : Launch} {mi : Mi} {n d : Nat} {G : Gx} {Q : Option Value → Mem → Prop} {vs : List Value} {M : Mem} (hC : CallOk mi n) (hc : ∀ w ∈ vs, w.category = 1) (hn : vs.length ≤ mi.2.2.1) (hW : WX mi d Q 0 (entL mi.2.2.1 vs) [] M) :
    Met l mi.2.2.2.2.1 (wsOf mi) (rmOf d) (va_Pc (vs.map (rl G.2.1)) (WP G M)) (QcOf G Q) 0 0 (Aof G.2.1) := by
  refine Met.ofW (cc := mi.2.1) (maxL := mi.2.2.1) (ret := mi.2.2.2.1) hC.2.2.2.1 rfl ?_
  intro p e s m args below meth c s₁ B hml hv
  obtain ⟨rfl, hP, hD, hF, hS⟩ := hv
  have hts := atoms_spec (ws := wsOf mi) B.pre
  have hown : s.vm.findClass (RXn mi.1) = some m.cls := by rw [← hC.2.2.1]; exact findClass_of_methodNamed B.named
  have hlocks := B.notSynchronized
  have hx := B.exec
  have hb := B.bytes
  have hr := B.returns
  rw [lg_entry_eq]
  have C : CX (G.1, G.2.1, G.2.2.1, Aof G.2.1) mi d p (headSpec (wsOf mi) (rmOf d)).room s m ((vs.map (rl G.2.1)).toArray) c 0 0 :=
    ⟨hx, hb, hml, hown, fun w hw => hts w (List.mem_cons_of_mem _ hw), Nat.le_refl d, Nat.le_refl _, Nat.le_refl _, Nat.le_refl _, hF, hC.2.2.2.2.2.2⟩
  refine hW p l e _ s m _ below meth c 0 0 _ (G.1, G.2.1, G.2.2.1, Aof G.2.1) C ?_ s.heap [] _ ⟨hP, hD, va_S.rf, hS⟩ (LR_ent hc hn)
  intro pc' L' st' M' ins rv hf hret hq H locs ls hR hL
  have hq' : ∀ t : State, t.heap = H → QcOf G Q ((vs.map (rl G.2.1)).toArray) s (.returned (rv.map (rl G.2.1))) t := fun t ht => ⟨rv, M', rfl, hq, by rw [ht]; exact hR.1, hR.2.2.2, hR.2.2.1.F ht⟩
  have hdg := hC.2.2.2.2.2.2 _ _ hf
  rcases hret with ⟨rfl, h1, rfl, rfl⟩ | ⟨v, ty, rfl, h1, rfl, rfl, h2⟩ | ⟨v, rfl, h1, rfl, rfl⟩ | ⟨q, K, rfl, h1, rfl, rfl⟩
  · exact W.vret hx hb (hr.trans h1) (fun t ht _ => hq' t ht) hR.2.2.1.2.2 hdg hlocks
  · exact W.zret hx hb (hr.trans h1) h2 (fun t ht _ => hq' t ht) hR.2.2.1.2.2 hdg hlocks
  · exact W.lret hx hb (hr.trans h1) (fun t ht _ => hq' t ht) hR.2.2.1.2.2 hdg hlocks
  · exact W.aret hx hb (hr.trans h1) (Or.inl ⟨K, rfl⟩) (Or.inr ⟨_, rfl⟩) (fun t ht _ => hq' t ht) hR.2.2.1.2.2 hdg hlocks
section CLL
variable {p : Program} {l : Launch} {e : Env} {R : Room} {s : State} {m : MethodId} {args : Array Value} {below : List Frame} {meth : Method} {c : Code} {cells slots : Nat} {Qr : State → Prop} {G : Gx}
variable {nL : Nat} {H : Heap} {locs : List Loc} {pc : Nat} {ls : Array Slot} {L : List (Option Value)} {st : List Value} {M : Mem}
theorem call_on {Q : Option Value → Mem → Prop} {a : Array Value} {st0 : List Value} (hr : va_Run p l e R s m args below meth c H locs cells slots 0 0 (F0 m pc ls st0) (st.map (rl G.2.1)) (QcOf G Q a) (Aof G.2.1)) (hR : Rp G s M H locs) (hL : LR G.2.1 nL L ls)
    (kk : ∀ (rv : Option Value) (M' : Mem), Q rv M' → Wt p l e R s m args below meth c cells slots Qr G nL (pc + 3) L (rv.toList ++ st) M') : W p l e R s m args below meth c H locs cells slots Qr (F0 m pc ls st0) := by
  intro T hT X
  obtain ⟨v, st₀, t, T', Lo, h0, X', hLo, e1, e2, ⟨rv, M', hv, hq, hP, hS', hz, hk⟩, go⟩ := hr T hT X
  cases hv
  rw [h0] at hz hk
  have hin := Aof_in hR.2.1
  have hS1 : va_S G.2.2.2 s.heap T'.heap (locs ++ Lo) := by
    refine ⟨Nat.le_trans hR.2.2.1.1 (by rw [e1]; exact hz), fun q h1 h2 => ?_, fun q hq => ?_⟩
    · rw [e1, hk q (Nat.lt_of_lt_of_le h1 hR.2.2.1.1) (fun z => h2 (hin q z))]
      exact hR.2.2.1.2.1 q h1 h2
    · rcases List.mem_append.mp hq with h | h
      · exact hR.2.2.1.2.2 q h
      · exact hin _ (hLo q h)
  have hD' : va_D G.2.2.2 (wl G M') := by
    refine ⟨fun i j x y hi hj hxy => ?_, fun k q hk => ?_⟩
    · by_cases h1 : i < nPl
      · by_cases h2 : j < nPl
        · rw [wl_at G M' h1] at hi
          rw [wl_at G M' h2] at hj
          cases hi
          cases hj
          exact hR.2.1.1 i j _ _ (wl_at G M h1) (wl_at G M h2) hxy
        · rw [wl_no G M' h2] at hj
          cases hj
      · rw [wl_no G M' h1] at hi
        cases hi
    · by_cases h1 : k < nPl
      · rw [wl_at G M' h1] at hk
        cases hk
        exact hR.2.1.2 k (G.2.1 k, cellE G M k (layF k)) (wl_at G M h1)
      · rw [wl_no G M' h1] at hk
        cases hk
  have hws : WS G M' s := WS_join hR.2.2.2 hS' (fun q h1 h2 => by rw [h0]; exact hR.2.2.1.2.1 q h1 h2)
  have hm : (rv.toList ++ st).map (rl G.2.1) = (rv.map (rl G.2.1)).toList ++ st.map (rl G.2.1) := by cases rv <;> rfl
  have h3 := kk rv M' hq T'.heap (locs ++ Lo) ls ⟨by rw [e1]; exact hP, hD', hS1, hws⟩ hL
  rw [hm] at h3
  obtain ⟨t2, a1, b1⟩ := h3 T' rfl X'
  exact ⟨t2, go t2 a1, b1⟩
end CLL
theorem rl_ref (ad : Nat → Nat) (q : Nat) : rl ad (.ref q) = .ref (ad q) := rfl
section WXC
variable {mi ca : Mi} {d d' n idx : Nat} {Q : Option Value → Mem → Prop} {pc : Nat} {L : List (Option Value)} {st stk : List Value} {M : Mem} {As : List Value} {q : Nat}
theorem cat_sum {st : List Value} (ad : Nat → Nat) : ((st.map (rl ad)).map fun v => v.category).sum = (st.map fun v => v.category).sum := by
  rw [List.map_map]
  congr 2
  funext v
  exact rl_cat ad v
theorem WX.callV (hf : mi.2.2.2.2.2 pc = some (.invokevirtual idx, 3)) (hl : Lnk mi.1 idx ca.2.2.2.2.1) (hC : CallOk ca n) (hV : CallV ca) (hn : As.length = n) (hd : d' < d)
    (hs : stk = As.reverse ++ .ref q :: st) (hrm : (st.map fun v => v.category).sum ≤ 8) (hq : q < nPl ∧ (layF q).1 = ca.1 ∧ ca.1 < 7) (hc : ∀ w ∈ As, w.category = 1) (hm : As.length + 1 ≤ ca.2.2.1)
    (hW : WX ca d' (fun rv M' => WX mi d Q (pc + 3) L (rv.toList ++ st) M') 0 (entL ca.2.2.1 (.ref q :: As)) [] M) : WX mi d Q pc L stk M := by
  intro p l e R s m args below meth c cells slots Qr G C E H locs ls hR hL
  subst hs
  have hM := met_of_WX (l := l) (G := G) hC (vs := .ref q :: As) (fun w hw => by
    rcases List.mem_cons.mp hw with e | e
    · rw [e]; rfl
    · exact hc w e) hm hW
  obtain ⟨hx, hb, hml, hown, hts, hdf, hdl, hcl, hsl, hF, hfo⟩ := id C
  have hmap : (As.reverse ++ .ref q :: st).map (rl G.2.1) = (As.map (rl G.2.1)).reverse ++ .ref (G.2.1 q) :: st.map (rl G.2.1) := by simp [rl]
  rw [hmap]
  have cw : CallW R s args (RXn mi.1) (RXn ca.1) idx ca.2.2.2.2.1 ca.2.1 ca.2.2.1 ca.2.2.2.1 (wsOf ca) (rmOf d') 0 0 n :=
    ⟨callB_of n hts (goodws hC) rfl rfl rfl (hts _ hC.2.1) (hts _ hl) hC.2.2.2.2.1 ⟨by show d' + 1 ≤ _; omega, by show 8 + (_ + 11) + 64 * d' ≤ _; have := hC.2.2.2.2.2.1; omega⟩, hts _ hV.1, by rw [← hC.2.2.1]; exact hts _ hV.2⟩
  have hcell := va_recv (cl := vwCl) hF.1 hR.1 (vwCl_at ca.1 hq.2.2) (q0 := q) (a := G.2.1 q) (ci := ca.1) (fs := (layF q).2.2.mapIdx (fun k c => rl G.2.1 (fvA M q k c))) (by rw [wl_at G M hq.1, cellE_obj hq.2.1 hq.2.2])
  refine call_on (va_runV (As := As.map (rl G.2.1)) (rest := st.map (rl G.2.1)) (b := G.2.1 q) (C := RXn ca.1) (Ts := gTbl) (own := RXn mi.1) (n := n) ⟨hx, hb, hml, hown, hts⟩ hM cw ⟨?_, hcell, ?_⟩ rfl (by rw [List.length_map]; exact hn) hL.2.1.1 rfl (lv_room (by rw [cat_sum]; exact hrm)) (hfo _ _ hf) ⟨hcl, hsl⟩) hR hL (fun rv M' hq' => ?_)
  · rintro a U g mk ⟨h1, h2⟩
    exact ⟨h1, WP_blind h2⟩
  · intro U hU hWm
    exact ⟨rfl, WP_of hF hR hU hWm⟩
  · exact hq' p l e R s m args below meth c cells slots Qr G C E
theorem WX.callS (hf : mi.2.2.2.2.2 pc = some (.invokestatic idx, 3)) (hl : Lnk mi.1 idx ca.2.2.2.2.1) (hC : CallOk ca n) (hV : CallS ca) (hn : As.length = n) (hd : d' < d)
    (hs : stk = As.reverse ++ st) (hrm : (st.map fun v => v.category).sum ≤ 8) (hc : ∀ w ∈ As, w.category = 1) (hm : As.length ≤ ca.2.2.1)
    (hW : WX ca d' (fun rv M' => WX mi d Q (pc + 3) L (rv.toList ++ st) M') 0 (entL ca.2.2.1 As) [] M) : WX mi d Q pc L stk M := by
  intro p l e R s m args below meth c cells slots Qr G C E H locs ls hR hL
  subst hs
  have hM := met_of_WX (l := l) (G := G) hC (vs := As) hc hm hW
  obtain ⟨hx, hb, hml, hown, hts, hdf, hdl, hcl, hsl, hF, hfo⟩ := id C
  have hmap : (As.reverse ++ st).map (rl G.2.1) = (As.map (rl G.2.1)).reverse ++ st.map (rl G.2.1) := by simp
  rw [hmap]
  have cw : CallB R s args (RXn mi.1) idx ca.2.2.2.2.1 ca.2.1 ca.2.2.1 ca.2.2.2.1 (wsOf ca) (rmOf d') 0 0 n :=
    callB_of n hts (goodws hC) rfl rfl rfl (hts _ hC.2.1) (hts _ hl) hC.2.2.2.2.1 ⟨by show d' + 1 ≤ _; omega, by show 8 + (_ + 11) + 64 * d' ≤ _; have := hC.2.2.2.2.2.1; omega⟩
  refine call_on (va_runS (As := As.map (rl G.2.1)) (rest := st.map (rl G.2.1)) (Ts := gTbl) (own := RXn mi.1) (n := n) ⟨hx, hb, hml, hown, hts⟩ hM ⟨cw, hts _ hV⟩ ⟨?_, ?_⟩ rfl (by rw [List.length_map]; exact hn) hL.2.1.1 rfl (lv_room (by rw [cat_sum]; exact hrm)) (hfo _ _ hf) ⟨hcl, hsl⟩) hR hL (fun rv M' hq' => ?_)
  · rintro a U g mk ⟨h1, h2⟩
    exact ⟨h1, WP_blind h2⟩
  · intro U hU hWm
    exact ⟨rfl, WP_of hF hR hU hWm⟩
  · exact hq' p l e R s m args below meth c cells slots Qr G C E
theorem WX.callSN {host : String} (hf : mi.2.2.2.2.2 pc = some (.invokestatic idx, 3)) (hl : LnkN mi.1 idx ca.2.2.2.2.1 host) (hC : CallOk ca n) (hV : CallS ca) (hn : As.length = n) (hd : d' < d)
    (hs : stk = As.reverse ++ st) (hrm : (st.map fun v => v.category).sum ≤ 8) (hc : ∀ w ∈ As, w.category = 1) (hm : As.length ≤ ca.2.2.1)
    (hW : WX ca d' (fun rv M' => WX mi d Q (pc + 3) L (rv.toList ++ st) M') 0 (entL ca.2.2.1 As) [] M) : WX mi d Q pc L stk M := by
  intro p l e R s m args below meth c cells slots Qr G C E H locs ls hR hL
  subst hs
  have hM := met_of_WX (l := l) (G := G) hC (vs := As) hc hm hW
  obtain ⟨hx, hb, hml, hown, hts, hdf, hdl, hcl, hsl, hF, hfo⟩ := id C
  have hmap : (As.reverse ++ st).map (rl G.2.1) = (As.map (rl G.2.1)).reverse ++ st.map (rl G.2.1) := by simp
  rw [hmap]
  have cw : va_CN R s args (RXn mi.1) idx ca.2.2.2.2.1 host ca.2.1 ca.2.2.1 ca.2.2.2.1 (wsOf ca) (rmOf d') 0 0 n :=
    va_cnB n hts (goodws hC) rfl rfl rfl (hF.2.1 _ (lnkn_nw hl)) (hts _ hC.2.1) hC.2.2.2.2.1 ⟨by show d' + 1 ≤ _; omega, by show 8 + (_ + 11) + 64 * d' ≤ _; have := hC.2.2.2.2.2.1; omega⟩
  refine call_on (va_runSN (As := As.map (rl G.2.1)) (rest := st.map (rl G.2.1)) (Ts := gTbl) (own := RXn mi.1) (n := n) ⟨hx, hb, hml, hown, hts⟩ hM ⟨cw, hts _ hV, trivial⟩ ⟨?_, ?_⟩ rfl (by rw [List.length_map]; exact hn) hL.2.1.1 rfl (lv_room (by rw [cat_sum]; exact hrm)) (hfo _ _ hf) ⟨hcl, hsl⟩) hR hL (fun rv M' hq' => ?_)
  · rintro a U g mk ⟨h1, h2⟩
    exact ⟨h1, WP_blind h2⟩
  · intro U hU hWm
    exact ⟨rfl, WP_of hF hR hU hWm⟩
  · exact hq' p l e R s m args below meth c cells slots Qr G C E
end WXC
