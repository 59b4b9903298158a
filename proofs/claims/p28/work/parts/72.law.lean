def R_law : String := "SlabYardLaw"
def lw_P (b : Addr) (xs : List Int32) (args : Array Value) (s : State) : Prop := args = #[.ref b] ∧ s.IntsAt b xs ∧ xs.length ≤ 260 ∧ (Jvm.Cond.and given_1 narrow_1).before args s = true
def lw_Q (_ : Array Value) (s : State) (o : Outcome) (t : State) : Prop := o = .returned (some (.int 1)) ∧ Framed s o t [] 600000 7302250
def lw_Z (below : List Frame) (a : Array Value) (s : State) : State → Prop := fun t => ∃ o, t.status = .running ∧ Ended t below o ∧ lw_Q a s o t
/-- the law's own end, with 1 on the stack, nothing written that was there before, its room as the claim has it -/
theorem lw_ret {p : Program} {l : Launch} {e : Env} {s : State} {m : MethodId} {below : List Frame} {meth : Method} {c : Code} {b : Nat} (hx : p.tables.exec = Jvm.exec) (hb : c.code = code) (hr : meth.sig.returnType = ret) (hlocks : meth.locks = false) {pc : Nat} {H : Heap} {ls : Array Slot} (hdg : decode code pc = .ok (.ireturn, 1)) : W p l e room_1 s m #[Value.ref b] below meth c H [] 600000 7302250 (lw_Z below #[Value.ref b] s) (F0 m pc ls [.int 1]) := by
  intro T hT X
  obtain ⟨fs, hret, hrun, hended, hW, hframe⟩ := X.leave (v := some (.int 1)) (hlocks := hlocks) (fun h => by rw [hr] at h; cases h)
  have hmeth' : T.vm.method? m = some meth := X.method'
  refine ⟨T.setFrames fs, ?_, .returned (some (.int 1)), hrun, hended, rfl, ⟨_, rfl⟩, hW, hframe⟩
  jvm_step X.here [X.here.top, hx, hb, hdg, hmeth', hr, ret, narrow_b1]
  (try refine ⟨rfl, ?_⟩); (try refine ⟨rfl, ?_⟩)
  first | (intro acts; rw [hret _ acts rfl rfl rfl]) | rw [hret _ _ rfl rfl rfl]
  exact Steps.refl _
/-- what holds at the law's entry: the machine, the code, the tables' words (any of lw_tbl by 'hts w (by decide +kernel)'), the script of L ints xs at the cell b, what the Statement gives of the start (any of its parts by flat_of_before) -/
def lw_At (p : Program) (s : State) (m : MethodId) (meth : Method) (c : Code) (b L : Nat) (xs : Nat → Int32) : Prop :=
  p.tables.exec = Jvm.exec ∧ c.code = code ∧ meth.sig.returnType = ret ∧ c.maxLocals = 11 ∧ s.vm.findClass R_law = some m.cls ∧ (∀ w ∈ lw_tbl, w.before #[Value.ref b] s = true) ∧ va_X b L xs s s.heap ∧ b < s.heap.size ∧ meth.locks = false ∧ (Jvm.Cond.and given_1 narrow_1).before #[Value.ref b] s = true
/-! ===== the law's body behind the making; printed by wip/gen/p72.py ===== -/
theorem classes_of {s : State} {args : Array Value} (hts : ∀ w ∈ gTbl, w.before args s = true) : ∃ D : va_G, ∀ (k : Nat) (q : vw_C), vwCl[k]? = some q → u_Kn s q.1 q.2.1 q.2.2 (D.1 k) (D.2 k) := by
  have h0 : ∀ i : Nat, ∃ q : ClassId × (Nat → Nat), i < 7 → u_Kn s (RXn i) (TXn i) (nXn i) q.1 q.2 := by
    intro i
    by_cases hi : i < 7
    · have h8 : i = 0 ∨ i = 1 ∨ i = 2 ∨ i = 3 ∨ i = 4 ∨ i = 5 ∨ i = 6 := by omega
      have hin : ∃ n, (Cond.instantiable (RXn i) n) ∈ gTbl := by
        rcases h8 with rfl | rfl | rfl | rfl | rfl | rfl | rfl
        · exact ⟨9, inAt_g (i := 116) (by decide +kernel) rfl⟩
        · exact ⟨4, inAt_g (i := 166) (by decide +kernel) rfl⟩
        · exact ⟨6, inAt_g (i := 188) (by decide +kernel) rfl⟩
        · exact ⟨7, inAt_g (i := 33) (by decide +kernel) rfl⟩
        · exact ⟨10, inAt_g (i := 27) (by decide +kernel) rfl⟩
        · exact ⟨1, inAt_g (i := 155) (by decide +kernel) rfl⟩
        · exact ⟨12, inAt_g (i := 19) (by decide +kernel) rfl⟩
      obtain ⟨n, hn⟩ := hin
      obtain ⟨c, iS, h⟩ := u_known (C := RXn i) (T := TXn i) (N := nXn i) (n := n) hts (uwsIn i hi) (hts _ hn)
      exact ⟨(c, iS), fun _ => h⟩
    · exact ⟨(0, fun _ => 0), fun h => absurd h hi⟩
  obtain ⟨ad, had⟩ := Classical.axiomOfChoice h0
  refine ⟨(fun i => (ad i).1, fun i => (ad i).2), fun k q hq => ?_⟩
  have hk : k < 7 := (List.getElem?_eq_some_iff.mp hq).1
  rw [vwCl_at k hk] at hq
  cases hq
  exact had k hk
theorem arr_known {s : State} {args : Array Value} {ty : FieldType} (h : (Cond.arrayClass ty).before args s = true) : ∃ cA : ClassId, ArrOfT s cA ty ∧ s.vm.findClass ("[" ++ ty.toString) = some cA := by
  obtain ⟨cA, k, comp, h1, h2, h3⟩ := Cond.arrayClass_spec h
  exact ⟨cA, fun n z => ⟨fun k h => (by cases h), k, h2, comp, h3⟩, h1⟩
theorem stat_0 {s : State} {b : Addr} {A : Nat → Prop} (hts : ∀ w ∈ lw_tbl, w.before #[Value.ref b] s = true) (hs : ∀ w ∈ flatC (Jvm.Cond.and given_1 narrow_1), w.before #[Value.ref b] s = true) (hA : ∀ a : Nat, a < s.heap.size → ¬ A a) : ∃ t : Nat, va_Z "SlabYard" (stN 0) "[I" (.ref t) A s s.heap ∧ va_T .int t 4 (fun k => .int (stV 0 k)) A s s.heap := by
  obtain ⟨t, ht, hT⟩ := va_Tof (tm := (Term.static "SlabYard" "SHAPES" "[I")) (ty := .int) (N := 4) (f := fun k => .int (stV 0 k)) (A := A) (by decide) (hs (Cond.arrayOf (Term.static "SlabYard" "SHAPES" "[I") .int) (by decide +kernel)) (va_eqt (hs (Cond.eq (.length (Term.static "SlabYard" "SHAPES" "[I")) (.int 4)) (by decide +kernel))) (fun j hj => by
    have h4 : j = 0 ∨ j = 1 ∨ j = 2 ∨ j = 3 := by omega
    rcases h4 with rfl | rfl | rfl | rfl
    · exact va_eqt (z := 51) (hs (Cond.eq (.elem (Term.static "SlabYard" "SHAPES" "[I") (.int 0)) (.int 51)) (by decide +kernel))
    · exact va_eqt (z := 3) (hs (Cond.eq (.elem (Term.static "SlabYard" "SHAPES" "[I") (.int 1)) (.int 3)) (by decide +kernel))
    · exact va_eqt (z := 17) (hs (Cond.eq (.elem (Term.static "SlabYard" "SHAPES" "[I") (.int 2)) (.int 17)) (by decide +kernel))
    · exact va_eqt (z := 1) (hs (Cond.eq (.elem (Term.static "SlabYard" "SHAPES" "[I") (.int 3)) (.int 1)) (by decide +kernel))) hA
  exact ⟨t, va_Zof (hts (Cond.laysStatic "SlabYard" "SHAPES" "[I") (inAt_lw (i := 271) (by decide +kernel))) (hts (Cond.initialized "SlabYard") (inAt_lw (i := 9) (by decide +kernel))) ht hA, hT⟩
theorem stat_1 {s : State} {b : Addr} {A : Nat → Prop} (hts : ∀ w ∈ lw_tbl, w.before #[Value.ref b] s = true) (hs : ∀ w ∈ flatC (Jvm.Cond.and given_1 narrow_1), w.before #[Value.ref b] s = true) (hA : ∀ a : Nat, a < s.heap.size → ¬ A a) : ∃ t : Nat, va_Z "SlabYard" (stN 1) "[I" (.ref t) A s s.heap ∧ va_T .int t 4 (fun k => .int (stV 1 k)) A s s.heap := by
  obtain ⟨t, ht, hT⟩ := va_Tof (tm := (Term.static "SlabYard" "WIDTHS" "[I")) (ty := .int) (N := 4) (f := fun k => .int (stV 1 k)) (A := A) (by decide) (hs (Cond.arrayOf (Term.static "SlabYard" "WIDTHS" "[I") .int) (by decide +kernel)) (va_eqt (hs (Cond.eq (.length (Term.static "SlabYard" "WIDTHS" "[I")) (.int 4)) (by decide +kernel))) (fun j hj => by
    have h4 : j = 0 ∨ j = 1 ∨ j = 2 ∨ j = 3 := by omega
    rcases h4 with rfl | rfl | rfl | rfl
    · exact va_eqt (z := 2) (hs (Cond.eq (.elem (Term.static "SlabYard" "WIDTHS" "[I") (.int 0)) (.int 2)) (by decide +kernel))
    · exact va_eqt (z := 2) (hs (Cond.eq (.elem (Term.static "SlabYard" "WIDTHS" "[I") (.int 1)) (.int 2)) (by decide +kernel))
    · exact va_eqt (z := 1) (hs (Cond.eq (.elem (Term.static "SlabYard" "WIDTHS" "[I") (.int 2)) (.int 1)) (by decide +kernel))
    · exact va_eqt (z := 1) (hs (Cond.eq (.elem (Term.static "SlabYard" "WIDTHS" "[I") (.int 3)) (.int 1)) (by decide +kernel))) hA
  exact ⟨t, va_Zof (hts (Cond.laysStatic "SlabYard" "WIDTHS" "[I") (inAt_lw (i := 331) (by decide +kernel))) (hts (Cond.initialized "SlabYard") (inAt_lw (i := 9) (by decide +kernel))) ht hA, hT⟩
theorem stat_2 {s : State} {b : Addr} {A : Nat → Prop} (hts : ∀ w ∈ lw_tbl, w.before #[Value.ref b] s = true) (hs : ∀ w ∈ flatC (Jvm.Cond.and given_1 narrow_1), w.before #[Value.ref b] s = true) (hA : ∀ a : Nat, a < s.heap.size → ¬ A a) : ∃ t : Nat, va_Z "SlabYard" (stN 2) "[I" (.ref t) A s s.heap ∧ va_T .int t 4 (fun k => .int (stV 2 k)) A s s.heap := by
  obtain ⟨t, ht, hT⟩ := va_Tof (tm := (Term.static "SlabYard" "JOINED_RIGHT" "[I")) (ty := .int) (N := 4) (f := fun k => .int (stV 2 k)) (A := A) (by decide) (hs (Cond.arrayOf (Term.static "SlabYard" "JOINED_RIGHT" "[I") .int) (by decide +kernel)) (va_eqt (hs (Cond.eq (.length (Term.static "SlabYard" "JOINED_RIGHT" "[I")) (.int 4)) (by decide +kernel))) (fun j hj => by
    have h4 : j = 0 ∨ j = 1 ∨ j = 2 ∨ j = 3 := by omega
    rcases h4 with rfl | rfl | rfl | rfl
    · exact va_eqt (z := 17) (hs (Cond.eq (.elem (Term.static "SlabYard" "JOINED_RIGHT" "[I") (.int 0)) (.int 17)) (by decide +kernel))
    · exact va_eqt (z := 1) (hs (Cond.eq (.elem (Term.static "SlabYard" "JOINED_RIGHT" "[I") (.int 1)) (.int 1)) (by decide +kernel))
    · exact va_eqt (z := 0) (hs (Cond.eq (.elem (Term.static "SlabYard" "JOINED_RIGHT" "[I") (.int 2)) (.int 0)) (by decide +kernel))
    · exact va_eqt (z := 0) (hs (Cond.eq (.elem (Term.static "SlabYard" "JOINED_RIGHT" "[I") (.int 3)) (.int 0)) (by decide +kernel))) hA
  exact ⟨t, va_Zof (hts (Cond.laysStatic "SlabYard" "JOINED_RIGHT" "[I") (inAt_lw (i := 477) (by decide +kernel))) (hts (Cond.initialized "SlabYard") (inAt_lw (i := 9) (by decide +kernel))) ht hA, hT⟩
theorem stat_3 {s : State} {b : Addr} {A : Nat → Prop} (hts : ∀ w ∈ lw_tbl, w.before #[Value.ref b] s = true) (hs : ∀ w ∈ flatC (Jvm.Cond.and given_1 narrow_1), w.before #[Value.ref b] s = true) (hA : ∀ a : Nat, a < s.heap.size → ¬ A a) : ∃ t : Nat, va_Z "SlabYard" (stN 3) "[I" (.ref t) A s s.heap ∧ va_T .int t 4 (fun k => .int (stV 3 k)) A s s.heap := by
  obtain ⟨t, ht, hT⟩ := va_Tof (tm := (Term.static "SlabYard" "JOINED_DOWN" "[I")) (ty := .int) (N := 4) (f := fun k => .int (stV 3 k)) (A := A) (by decide) (hs (Cond.arrayOf (Term.static "SlabYard" "JOINED_DOWN" "[I") .int) (by decide +kernel)) (va_eqt (hs (Cond.eq (.length (Term.static "SlabYard" "JOINED_DOWN" "[I")) (.int 4)) (by decide +kernel))) (fun j hj => by
    have h4 : j = 0 ∨ j = 1 ∨ j = 2 ∨ j = 3 := by omega
    rcases h4 with rfl | rfl | rfl | rfl
    · exact va_eqt (z := 3) (hs (Cond.eq (.elem (Term.static "SlabYard" "JOINED_DOWN" "[I") (.int 0)) (.int 3)) (by decide +kernel))
    · exact va_eqt (z := 0) (hs (Cond.eq (.elem (Term.static "SlabYard" "JOINED_DOWN" "[I") (.int 1)) (.int 0)) (by decide +kernel))
    · exact va_eqt (z := 1) (hs (Cond.eq (.elem (Term.static "SlabYard" "JOINED_DOWN" "[I") (.int 2)) (.int 1)) (by decide +kernel))
    · exact va_eqt (z := 0) (hs (Cond.eq (.elem (Term.static "SlabYard" "JOINED_DOWN" "[I") (.int 3)) (.int 0)) (by decide +kernel))) hA
  exact ⟨t, va_Zof (hts (Cond.laysStatic "SlabYard" "JOINED_DOWN" "[I") (inAt_lw (i := 480) (by decide +kernel))) (hts (Cond.initialized "SlabYard") (inAt_lw (i := 9) (by decide +kernel))) ht hA, hT⟩
theorem stats_of {s : State} {b : Addr} {A : Nat → Prop} (hts : ∀ w ∈ lw_tbl, w.before #[Value.ref b] s = true) (hgv : (Jvm.Cond.and given_1 narrow_1).before #[Value.ref b] s = true) (hA : ∀ a : Nat, a < s.heap.size → ¬ A a) : ∃ t : Nat → Nat, ∀ j, j < 4 → va_Z "SlabYard" (stN j) "[I" (.ref (t j)) A s s.heap ∧ va_T .int (t j) 4 (fun k => .int (stV j k)) A s s.heap := by
  have hs := flat_of_before _ hgv
  obtain ⟨t0, h0⟩ := stat_0 (A := A) hts hs hA
  obtain ⟨t1, h1⟩ := stat_1 (A := A) hts hs hA
  obtain ⟨t2, h2⟩ := stat_2 (A := A) hts hs hA
  obtain ⟨t3, h3⟩ := stat_3 (A := A) hts hs hA
  refine ⟨fun j => ([t0, t1, t2, t3] : List Nat).getD j 0, fun j hj => ?_⟩
  have h4 : j = 0 ∨ j = 1 ∨ j = 2 ∨ j = 3 := by omega
  rcases h4 with rfl | rfl | rfl | rfl
  · exact h0
  · exact h1
  · exact h2
  · exact h3
def kcl (cI : ClassId) : Nat → ClassId := fun _ => cI
/-- the law behind the making -/
theorem law_at16 {p : Program} {e : Env} {s : State} {m : MethodId} {below : List Frame} {meth : Method} {c : Code} {l : Launch} {b L : Nat} {xs : Nat → Int32} (hL : L ≤ 260) (C0 : lw_At p s m meth c b L xs) {D : va_G} {cI : ClassId} {ad t : Nat → Nat} {M : Mem} {H : Heap} {locs : List Loc} {ls : Array Slot} {cells slots : Nat} (hK : va_K D vwCl (tyL cI) s) (hN : ∀ w ∈ nwTbl, va_Nw w s)
    (hst : ∀ j, j < 4 → va_Z "SlabYard" (stN j) "[I" (.ref (t j)) (fun q => s.heap.size ≤ q) s s.heap ∧ va_T .int (t j) 4 (fun k => .int (stV j k)) (fun q => s.heap.size ≤ q) s s.heap)
    (had : ∀ j, j < 4 → ad (100 + j) = t j) (hab : ad 104 = b) (hM1 : M.1 104 = xs) (hM2 : M.1 105 0 = nI L) (hI : DD (sgD drN 0) (sgD drN 0) M)
    (hP : va_P D vwCl (wl (D, ad, kcl cI, fun q => s.heap.size ≤ q) M) H) (hD : va_D (fun q => s.heap.size ≤ q) (wl (D, ad, kcl cI, fun q => s.heap.size ≤ q) M)) (hS : va_S (fun q => s.heap.size ≤ q) s.heap H locs) (hl : lv_has ls 11 [(2, .ref (ad 37)), (1, .ref (ad 0)), (0, .ref b)]) (hcs : cells ≤ 600000) (hss : slots ≤ 7302250) :
    W p l e room_1 s m #[Value.ref b] below meth c H locs cells slots (lw_Z below #[Value.ref b] s) (F0 m 16 ls []) := by
  obtain ⟨hx, hb, hr, hml, hown, hts, hX, hbl, hlocks, hgv⟩ := id C0
  have htg : ∀ w ∈ gTbl, w.before #[Value.ref b] s = true := fun w hw => hts w (List.mem_filter.mp hw).1
  have hF : WF (D, ad, kcl cI, fun q => s.heap.size ≤ q) s := ⟨hK, hN, fun j hj => by
    show va_Z "SlabYard" (stN j) "[I" (.ref (ad (100 + j))) (fun q => s.heap.size ≤ q) s s.heap ∧ va_T .int (ad (100 + j)) 4 (fun k => .int (stV j k)) (fun q => s.heap.size ≤ q) s s.heap
    rw [had j hj]
    exact hst j hj⟩
  have hWS : WS (D, ad, kcl cI, fun q => s.heap.size ≤ q) M s := by
    obtain ⟨scr, h1, h2, h3, h4, h5⟩ := hX
    refine ⟨L, ⟨scr, ?_, h2, h3, by omega, by rw [h4], fun j hj => ?_, ?_⟩, hM2.symm, by omega⟩
    · show s.heap[ad 104]? = some scr
      rw [hab]; exact h1
    · show scr.slots[j]? = some (.int (M.1 104 j))
      rw [hM1]; exact h5 j hj
    · show ¬ s.heap.size ≤ ad 104
      rw [hab]; exact Nat.not_le.mpr hbl
  have hLR : LR ad 11 [some (.ref 104), some (.ref 0), some (.ref 37), none, none, none, none, none, none, none, none] ls := by
    refine ⟨rfl, ?_, fun i v hv => ?_⟩
    · have e : al ad [some (.ref 104), some (.ref 0), some (.ref 37), none, none, none, none, none, none, none, none] = [(0, .ref (ad 104)), (1, .ref (ad 0)), (2, .ref (ad 37))] := rfl
      rw [e, hab]
      exact lv_sub hl [2, 1, 0] rfl
    · unfold gl at hv
      match i, hv with
      | 0, hv => cases hv; rfl
      | 1, hv => cases hv; rfl
      | 2, hv => cases hv; rfl
      | 3, hv => cases hv
      | 4, hv => cases hv
      | 5, hv => cases hv
      | 6, hv => cases hv
      | 7, hv => cases hv
      | 8, hv => cases hv
      | 9, hv => cases hv
      | 10, hv => cases hv
      | i + 11, hv => cases hv
  have CXl : CX (D, ad, kcl cI, fun q => s.heap.size ≤ q) mi_law 28 p room_1 s m #[Value.ref b] c cells slots := ⟨hx, hb, hml, hown, htg, Nat.le_of_ble_eq_true rfl, Nat.le_of_ble_eq_true rfl, hcs, hss, hF, fk_law⟩
  refine law_wx hL hI hM2 p l e room_1 s m #[Value.ref b] below meth c cells slots (lw_Z below #[Value.ref b] s) _ CXl ?_ H locs ls ⟨hP, hD, hS, hWS⟩ hLR
  intro pc' L' st' M' ins rv hf hret hq H' locs' ls' hR hL'
  have hdg := fk_law _ _ hf
  rcases hret with ⟨rfl, h1, rfl, rfl⟩ | ⟨v, ty, rfl, h1, rfl, rfl, h2⟩ | ⟨v, rfl, h1, rfl, rfl⟩ | ⟨q, K, rfl, h1, rfl, rfl⟩
  · cases hq
  · cases hq
    refine va_forget (fun q hq => hR.2.2.1.2.2 q hq) ?_
    refine W.widen (k := 600000) (n := 7302250) hcs hss ?_
    exact lw_ret hx hb hr hlocks hdg
  · cases hq
  · cases hq
