/-! ===== constructors: what the rows share; printed by wip/gen/p69.py ===== -/
def tyL (cI : ClassId) : List (ClassId × FieldType) := [(cI, .int)]
theorem ra_uni {U : State} {a b : ClassId} {ty : FieldType} (hty : ty = .int ∨ ty = .byte ∨ ty = .boolean) (h1 : va_RA U a ty) (h2 : va_RA U b ty) : a = b := by
  rcases hty with rfl | rfl | rfl
  · exact Option.some.inj (Eq.trans (Eq.symm h1) h2)
  · exact Option.some.inj (Eq.trans (Eq.symm h1) h2)
  · exact Option.some.inj (Eq.trans (Eq.symm h1) h2)
theorem nw_blind {U : State} {g : JFrame} {mk : MethodId} {a : Array Value} (h : ∀ w ∈ nwTbl, va_Nw w U) : ∀ w ∈ nwTbl, va_Nw w (U.calling g mk a) := fun w hw => by
  have h2 := (List.mem_filter.mp hw).2
  have h3 := h w hw
  cases w <;> first | (cases h2; done) | exact va_Nw.same rfl rfl h3
set_option maxHeartbeats 4000000 in
/-- a loop that fills a row of an object's -/
theorem fill_loop {p : Program} {l : Launch} {e : Env} {R : Room} {s : State} {m : MethodId} {args : Array Value} {below : List Frame} {meth : Method} {c : Code} {cells slots : Nat} {Q : State → Prop} {cc : ByteArray} (hx : p.tables.exec = Jvm.exec) (hb : c.code = cc) (hts : ∀ w ∈ gTbl, w.before args s = true) {o : Nat} (ho : o < 7) (hown : s.vm.findClass (RXn o) = some m.cls)
    {D : va_G} {A : Nat → Prop} {cI : ClassId} (hK : va_K D vwCl (tyL cI) s) {nL pc0 pc1 pc2 ex : Nat} {N : Nat} {cst : Int32} {idx : Nat} {off goff : Int} (hN : N < 2 ^ 31) (hnL : 1 < nL)
    (d1 : decode cc pc0 = .ok (.iload_n 1, 1))
    (hpush : ∀ (H : Heap) (locs : List Loc) (ls : Array Slot) (rest : List Value), W p l e R s m args below meth c H locs cells slots Q (F0 m pc1 ls (.int (nI N) :: rest)) → W p l e R s m args below meth c H locs cells slots Q (F0 m (pc0 + 1) ls rest))
    (d2 : decode cc pc1 = .ok (.if_icmp .ge off, 3)) (hex : (pc1 : Int) + off = (ex : Int))
    (d3 : decode cc (pc1 + 3) = .ok (.aload_n 0, 1)) (d4 : decode cc (pc1 + 3 + 1) = .ok (.getfield idx, 3)) (d5 : decode cc (pc1 + 3 + 1 + 3) = .ok (.iload_n 1, 1))
    (hcst : ∀ (H : Heap) (locs : List Loc) (ls : Array Slot) (rest : List Value), W p l e R s m args below meth c H locs cells slots Q (F0 m pc2 ls (.int cst :: rest)) → W p l e R s m args below meth c H locs cells slots Q (F0 m (pc1 + 3 + 1 + 3 + 1) ls rest))
    (d6 : decode cc pc2 = .ok (.iastore, 1)) (d7 : decode cc (pc2 + 1) = .ok (.iinc 1 1, 3)) (d8 : decode cc (pc2 + 1 + 3) = .ok (.goto goff, 3)) (hgo : ((pc2 + 1 + 3 : Nat) : Int) + goff = (pc0 : Int))
    {ws : (Nat → Int32) → va_W} {oi ai k a0 q : Nat} {fs : List Value} (hk : k < nXn o) (w1 : ∀ f, (ws f)[oi]? = some (a0, .inr (o, fs))) (w2 : ∀ f, (ws f)[ai]? = some (q, .inl (cI, N, .inl f))) (w3 : ∀ f i x, (ws f).set ai (q, .inl (cI, N, .inl (upd f i x))) = ws (upd f i x)) (hq : fs[k]? = some (.ref q))
    (hlink : (Cond.fieldLink (RXn o) idx (TXn o k).1 (TXn o k).2.1 (TXn o k).2.2.1) ∈ gTbl)
    (after : ∀ (f : Nat → Int32) (H : Heap) (locs : List Loc) (ls : Array Slot), va_P D vwCl (ws f) H → va_D A (ws f) → va_S A s.heap H locs → (∀ i, i < N → f i = cst) → lv_has ls nL [(1, .int (nI N)), (0, .ref a0)] → W p l e R s m args below meth c H locs cells slots Q (F0 m ex ls [])) :
    ∀ (n j : Nat) (f : Nat → Int32) (H : Heap) (locs : List Loc) (ls : Array Slot), j + n = N → va_P D vwCl (ws f) H → va_D A (ws f) → va_S A s.heap H locs → (∀ i, i < j → f i = cst) → lv_has ls nL [(1, .int (nI j)), (0, .ref a0)] → W p l e R s m args below meth c H locs cells slots Q (F0 m pc0 ls []) := by
  intro n
  induction n with
  | zero =>
    intro j f H locs ls hj hP hD hS hf hl
    have e : j = N := by omega
    subst e
    refine lv_iload_n hx hb d1 rfl (lv_at hl 0 rfl) ?_
    refine hpush _ _ _ _ ?_
    exact lv_icmp_ge (tgt := ex) hx hb d2 hex (fun _ => after f H locs ls hP hD hS hf hl) (fun z => absurd (Int32.le_refl _) z)
  | succ n ih =>
    intro j f H locs ls hj hP hD hS hf hl
    refine lv_iload_n hx hb d1 rfl (lv_at hl 0 rfl) ?_
    refine hpush _ _ _ _ ?_
    refine lv_icmp_ge (tgt := ex) hx hb d2 hex (fun z => ?_) (fun _ => ?_)
    · have := (nI_le_iff (by omega) (by omega)).mp z
      omega
    · refine lv_aload_n hx hb d3 rfl (lv_at hl 1 rfl) ?_
      refine va_get (D := D) (ci := o) (v := .ref q) (C := RXn o) (T := TXn o) (N := nXn o) hx hb hts (uwsIn o ho) hown hK hP oi (w1 f) (vwCl_at o ho) k hk (hts _ hlink) (fun _ h9 => h9) hq d4 ?_
      refine lv_iload_n hx hb d5 rfl (lv_at hl 0 rfl) ?_
      refine hcst _ _ _ _ ?_
      refine va_iast hx hb hK hP hD hS ai 0 (w2 f) rfl (vp_in_nI (n := j) (by omega) hN) d6 (fun H1 locs1 hP1 hD1 hS1 => ?_)
      rw [w3] at hP1 hD1
      rw [nI_clamp (by omega)] at hP1 hD1
      refine lv_iinc (v := nI (j + 1)) (lv' := [(1, .int (nI (j + 1))), (0, .ref a0)]) hx hb d7 hl (k := 0) rfl (nI_1 j) hnL rfl (fun ls2 hl2 => ?_)
      refine lv_goto (tgt := pc0) hx hb d8 hgo ?_
      refine ih (j + 1) (upd f j cst) H1 locs1 ls2 (by omega) hP1 hD1 hS1 (fun i hi => ?_) hl2
      unfold upd
      by_cases z : i = j
      · rw [if_pos z]
      · rw [if_neg z]; exact hf i (by omega)
set_option maxHeartbeats 8000000 in
set_option maxRecDepth 100000 in
theorem c_L_wipe (l : Launch) (D : va_G) (cI : ClassId) (h0 : Nat) (q1 q2 : Nat) (f1 f2 : Nat → Int32) (v0 v1 v2 v3 v4 : Int32) (sz : Nat) : Met l mi_L_wipe.2.2.2.2.1 (wsOf mi_L_wipe) { frames := 0, cells := 0, slots := 0, locals := 64 * 0 } (va_Pc [.ref h0] (fun U => U.heap.size = sz ∧ va_P D vwCl [(h0, .inr (3, [.int v0, .int v1, .int v2, .int v3, .int v4, .ref q1, .ref q2])), (q1, .inl (cI, 16, .inl f1)), (q2, .inl (cI, 4, .inl f2))] U.heap ∧ va_K D vwCl (tyL cI) U ∧ (∀ w ∈ nwTbl, va_Nw w U) ∧ va_D (fun _ => True) [(h0, .inr (3, [.int v0, .int v1, .int v2, .int v3, .int v4, .ref q1, .ref q2])), (q1, .inl (cI, 16, .inl f1)), (q2, .inl (cI, 4, .inl f2))])) (va_Qv (fun _ : Unit => True) (fun _ t => ∃ fa fb : Nat → Int32, va_P D vwCl [(h0, .inr (3, [.int 0, .int 0, .int 0, .int 0, .int 0, .ref q1, .ref q2])), (q1, .inl (cI, 16, .inl fa)), (q2, .inl (cI, 4, .inl fb))] t.heap ∧ va_D (va_A [(h0, .inr (3, [.int v0, .int v1, .int v2, .int v3, .int v4, .ref q1, .ref q2])), (q1, .inl (cI, 16, .inl f1)), (q2, .inl (cI, 4, .inl f2))] sz) [(h0, .inr (3, [.int 0, .int 0, .int 0, .int 0, .int 0, .ref q1, .ref q2])), (q1, .inl (cI, 16, .inl fa)), (q2, .inl (cI, 4, .inl fb))]) (va_A [(h0, .inr (3, [.int v0, .int v1, .int v2, .int v3, .int v4, .ref q1, .ref q2])), (q1, .inl (cI, 16, .inl f1)), (q2, .inl (cI, 4, .inl f2))] sz)) 0 0 (va_A [(h0, .inr (3, [.int v0, .int v1, .int v2, .int v3, .int v4, .ref q1, .ref q2])), (q1, .inl (cI, 16, .inl f1)), (q2, .inl (cI, 4, .inl f2))] sz) := by
  refine Met.ofW (cc := cX3_wipe) (maxL := 2) (ret := none) (by decide) rfl ?_
  intro p e s m args below meth c s₁ B hml hv
  obtain ⟨rfl, hsz, hP, hK, hN, hD0⟩ := hv
  have hx := B.exec
  have hb := B.bytes
  have hr := B.returns
  have hts0 := atoms_spec (ws := wsOf mi_L_wipe) B.pre
  have hts : ∀ w ∈ gTbl, w.before _ s = true := fun w hw => hts0 w (List.mem_cons_of_mem _ hw)
  have hown : s.vm.findClass (RXn 3) = some m.cls := findClass_of_methodNamed B.named
  have hlocks := B.notSynchronized
  subst hsz
  have hD := hD0.self (sz := s.heap.size)
  generalize hAe : va_A [(h0, .inr (3, [.int v0, .int v1, .int v2, .int v3, .int v4, .ref q1, .ref q2])), (q1, .inl (cI, 16, .inl f1)), (q2, .inl (cI, 4, .inl f2))] s.heap.size = A at hD ⊢
  have hA : ∀ q : Nat, s.heap.size ≤ q → A q := fun q h => by rw [← hAe]; exact Or.inr h
  have hS : va_S A s.heap s.heap [] := va_S.rf
  have hP : va_P D vwCl [(h0, .inr (3, [.int v0, .int v1, .int v2, .int v3, .int v4, .ref q1, .ref q2])), (q1, .inl (cI, 16, .inl f1)), (q2, .inl (cI, 4, .inl f2))] s.heap := hP
  have hl := lv_entry ([.ref h0]) (n := 2) (Nat.le_of_ble_eq_true rfl)
  rw [lg_entry_eq]
  generalize (lg_sl ([.ref h0]) ++ List.replicate (2 - (lg_sl ([.ref h0])).length) Slot.unset).toArray = ls at hl ⊢
  have hl : lv_has ls 2 [(0, .ref h0)] := hl
  refine lv_aload_n hx hb (fk_L_wipe 0 _ rfl) rfl (lv_at hl 0 rfl) ?_
  refine lv_iconst (v := 0) hx hb (fk_L_wipe 1 _ rfl) rfl ?_
  refine va_put (D := D) (ci := 3) (v := .int 0) (ty := .int) (C := RXn 3) (T := TXn 3) (N := nXn 3) hx hb hts (uwsIn 3 (by decide)) (tyn 3) (tyn_ok 3 (by decide)) (nmn 3 (by decide)) hown hK hP hD hS 0 rfl (vwCl_at 3 (by decide)) 0 (by decide) (hts _ (inAt_g (i := 42) (by decide +kernel) rfl)) (fun _ h9 => h9) rfl (tyn_ok 3 (by decide) 0 (by decide)) rfl rfl (Nat.le_of_ble_eq_true rfl) (fk_L_wipe 2 _ rfl) (fun H locs hP hD hS => ?_)
  have hP : va_P D vwCl [(h0, .inr (3, [.int 0, .int v1, .int v2, .int v3, .int v4, .ref q1, .ref q2])), (q1, .inl (cI, 16, .inl f1)), (q2, .inl (cI, 4, .inl f2))] H := hP
  have hD : va_D A [(h0, .inr (3, [.int 0, .int v1, .int v2, .int v3, .int v4, .ref q1, .ref q2])), (q1, .inl (cI, 16, .inl f1)), (q2, .inl (cI, 4, .inl f2))] := hD
  refine lv_aload_n hx hb (fk_L_wipe 5 _ rfl) rfl (lv_at hl 0 rfl) ?_
  refine lv_iconst (v := 0) hx hb (fk_L_wipe 6 _ rfl) rfl ?_
  refine va_put (D := D) (ci := 3) (v := .int 0) (ty := .int) (C := RXn 3) (T := TXn 3) (N := nXn 3) hx hb hts (uwsIn 3 (by decide)) (tyn 3) (tyn_ok 3 (by decide)) (nmn 3 (by decide)) hown hK hP hD hS 0 rfl (vwCl_at 3 (by decide)) 1 (by decide) (hts _ (inAt_g (i := 45) (by decide +kernel) rfl)) (fun _ h9 => h9) rfl (tyn_ok 3 (by decide) 1 (by decide)) rfl rfl (Nat.le_of_ble_eq_true rfl) (fk_L_wipe 7 _ rfl) (fun H locs hP hD hS => ?_)
  have hP : va_P D vwCl [(h0, .inr (3, [.int 0, .int 0, .int v2, .int v3, .int v4, .ref q1, .ref q2])), (q1, .inl (cI, 16, .inl f1)), (q2, .inl (cI, 4, .inl f2))] H := hP
  have hD : va_D A [(h0, .inr (3, [.int 0, .int 0, .int v2, .int v3, .int v4, .ref q1, .ref q2])), (q1, .inl (cI, 16, .inl f1)), (q2, .inl (cI, 4, .inl f2))] := hD
  refine lv_aload_n hx hb (fk_L_wipe 10 _ rfl) rfl (lv_at hl 0 rfl) ?_
  refine lv_iconst (v := 0) hx hb (fk_L_wipe 11 _ rfl) rfl ?_
  refine va_put (D := D) (ci := 3) (v := .int 0) (ty := .int) (C := RXn 3) (T := TXn 3) (N := nXn 3) hx hb hts (uwsIn 3 (by decide)) (tyn 3) (tyn_ok 3 (by decide)) (nmn 3 (by decide)) hown hK hP hD hS 0 rfl (vwCl_at 3 (by decide)) 2 (by decide) (hts _ (inAt_g (i := 48) (by decide +kernel) rfl)) (fun _ h9 => h9) rfl (tyn_ok 3 (by decide) 2 (by decide)) rfl rfl (Nat.le_of_ble_eq_true rfl) (fk_L_wipe 12 _ rfl) (fun H locs hP hD hS => ?_)
  have hP : va_P D vwCl [(h0, .inr (3, [.int 0, .int 0, .int 0, .int v3, .int v4, .ref q1, .ref q2])), (q1, .inl (cI, 16, .inl f1)), (q2, .inl (cI, 4, .inl f2))] H := hP
  have hD : va_D A [(h0, .inr (3, [.int 0, .int 0, .int 0, .int v3, .int v4, .ref q1, .ref q2])), (q1, .inl (cI, 16, .inl f1)), (q2, .inl (cI, 4, .inl f2))] := hD
  refine lv_aload_n hx hb (fk_L_wipe 15 _ rfl) rfl (lv_at hl 0 rfl) ?_
  refine lv_iconst (v := 0) hx hb (fk_L_wipe 16 _ rfl) rfl ?_
  refine va_put (D := D) (ci := 3) (v := .int 0) (ty := .int) (C := RXn 3) (T := TXn 3) (N := nXn 3) hx hb hts (uwsIn 3 (by decide)) (tyn 3) (tyn_ok 3 (by decide)) (nmn 3 (by decide)) hown hK hP hD hS 0 rfl (vwCl_at 3 (by decide)) 3 (by decide) (hts _ (inAt_g (i := 51) (by decide +kernel) rfl)) (fun _ h9 => h9) rfl (tyn_ok 3 (by decide) 3 (by decide)) rfl rfl (Nat.le_of_ble_eq_true rfl) (fk_L_wipe 17 _ rfl) (fun H locs hP hD hS => ?_)
  have hP : va_P D vwCl [(h0, .inr (3, [.int 0, .int 0, .int 0, .int 0, .int v4, .ref q1, .ref q2])), (q1, .inl (cI, 16, .inl f1)), (q2, .inl (cI, 4, .inl f2))] H := hP
  have hD : va_D A [(h0, .inr (3, [.int 0, .int 0, .int 0, .int 0, .int v4, .ref q1, .ref q2])), (q1, .inl (cI, 16, .inl f1)), (q2, .inl (cI, 4, .inl f2))] := hD
  refine lv_aload_n hx hb (fk_L_wipe 20 _ rfl) rfl (lv_at hl 0 rfl) ?_
  refine lv_iconst (v := 0) hx hb (fk_L_wipe 21 _ rfl) rfl ?_
  refine va_put (D := D) (ci := 3) (v := .int 0) (ty := .int) (C := RXn 3) (T := TXn 3) (N := nXn 3) hx hb hts (uwsIn 3 (by decide)) (tyn 3) (tyn_ok 3 (by decide)) (nmn 3 (by decide)) hown hK hP hD hS 0 rfl (vwCl_at 3 (by decide)) 4 (by decide) (hts _ (inAt_g (i := 54) (by decide +kernel) rfl)) (fun _ h9 => h9) rfl (tyn_ok 3 (by decide) 4 (by decide)) rfl rfl (Nat.le_of_ble_eq_true rfl) (fk_L_wipe 22 _ rfl) (fun H locs hP hD hS => ?_)
  have hP : va_P D vwCl [(h0, .inr (3, [.int 0, .int 0, .int 0, .int 0, .int 0, .ref q1, .ref q2])), (q1, .inl (cI, 16, .inl f1)), (q2, .inl (cI, 4, .inl f2))] H := hP
  have hD : va_D A [(h0, .inr (3, [.int 0, .int 0, .int 0, .int 0, .int 0, .ref q1, .ref q2])), (q1, .inl (cI, 16, .inl f1)), (q2, .inl (cI, 4, .inl f2))] := hD
  refine lv_iconst (v := 0) hx hb (fk_L_wipe 25 _ rfl) rfl ?_
  refine lv_istore_n (lv' := [(1, .int 0), (0, .ref h0)]) hx hb (fk_L_wipe 26 _ rfl) rfl (lv_sub (l' := [(0, .ref h0)]) hl [0] rfl) (by decide) rfl (fun ls hl => ?_)
  refine fill_loop (o := 3) (cells := 0) (slots := 0) (nL := 2) (pc0 := 27) (pc1 := 30) (pc2 := 39) (ex := 46) (N := 16) (cst := (0)) (idx := 9) hx hb hts (by decide) hown hK (by decide) (by decide) (fk_L_wipe 27 _ rfl) (fun _ _ _ _ h => lv_bipush (v := nI 16) hx hb (fk_L_wipe 28 _ rfl) (by decide) h) (fk_L_wipe 30 _ rfl) (by decide) (fk_L_wipe 33 _ rfl) (fk_L_wipe 34 _ rfl) (fk_L_wipe 37 _ rfl) (fun _ _ _ _ h => lv_iconst (v := (0)) hx hb (fk_L_wipe 38 _ rfl) rfl h) (fk_L_wipe 39 _ rfl) (fk_L_wipe 40 _ rfl) (fk_L_wipe 43 _ rfl) (by decide) (ws := fun f27 => [(h0, .inr (3, [.int 0, .int 0, .int 0, .int 0, .int 0, .ref q1, .ref q2])), (q1, .inl (cI, 16, .inl f27)), (q2, .inl (cI, 4, .inl f2))]) (oi := 0) (ai := 1) (k := 5) (by decide) (fun _ => rfl) (fun _ => rfl) (fun _ _ _ => rfl) rfl (inAt_g (i := 58) (by decide +kernel) rfl) (fun f27 H locs ls hP hD hS hf27 hl => ?_) 16 0 f1 _ _ ls (Nat.zero_add _) hP hD hS (fun i hi => absurd hi (Nat.not_lt_zero i)) hl
  have hP : va_P D vwCl [(h0, .inr (3, [.int 0, .int 0, .int 0, .int 0, .int 0, .ref q1, .ref q2])), (q1, .inl (cI, 16, .inl f27)), (q2, .inl (cI, 4, .inl f2))] H := hP
  have hD : va_D A [(h0, .inr (3, [.int 0, .int 0, .int 0, .int 0, .int 0, .ref q1, .ref q2])), (q1, .inl (cI, 16, .inl f27)), (q2, .inl (cI, 4, .inl f2))] := hD
  refine lv_iconst (v := 0) hx hb (fk_L_wipe 46 _ rfl) rfl ?_
  refine lv_istore_n (lv' := [(1, .int 0), (0, .ref h0)]) hx hb (fk_L_wipe 47 _ rfl) rfl (lv_sub (l' := [(0, .ref h0)]) hl [1] rfl) (by decide) rfl (fun ls hl => ?_)
  refine fill_loop (o := 3) (cells := 0) (slots := 0) (nL := 2) (pc0 := 48) (pc1 := 50) (pc2 := 59) (ex := 66) (N := 4) (cst := (4)) (idx := 15) hx hb hts (by decide) hown hK (by decide) (by decide) (fk_L_wipe 48 _ rfl) (fun _ _ _ _ h => lv_iconst (v := nI 4) hx hb (fk_L_wipe 49 _ rfl) rfl h) (fk_L_wipe 50 _ rfl) (by decide) (fk_L_wipe 53 _ rfl) (fk_L_wipe 54 _ rfl) (fk_L_wipe 57 _ rfl) (fun _ _ _ _ h => lv_iconst (v := (4)) hx hb (fk_L_wipe 58 _ rfl) rfl h) (fk_L_wipe 59 _ rfl) (fk_L_wipe 60 _ rfl) (fk_L_wipe 63 _ rfl) (by decide) (ws := fun f48 => [(h0, .inr (3, [.int 0, .int 0, .int 0, .int 0, .int 0, .ref q1, .ref q2])), (q1, .inl (cI, 16, .inl f27)), (q2, .inl (cI, 4, .inl f48))]) (oi := 0) (ai := 2) (k := 6) (by decide) (fun _ => rfl) (fun _ => rfl) (fun _ _ _ => rfl) rfl (inAt_g (i := 61) (by decide +kernel) rfl) (fun f48 H locs ls hP hD hS hf48 hl => ?_) 4 0 f2 _ _ ls (Nat.zero_add _) hP hD hS (fun i hi => absurd hi (Nat.not_lt_zero i)) hl
  have hP : va_P D vwCl [(h0, .inr (3, [.int 0, .int 0, .int 0, .int 0, .int 0, .ref q1, .ref q2])), (q1, .inl (cI, 16, .inl f27)), (q2, .inl (cI, 4, .inl f48))] H := hP
  have hD : va_D A [(h0, .inr (3, [.int 0, .int 0, .int 0, .int 0, .int 0, .ref q1, .ref q2])), (q1, .inl (cI, 16, .inl f27)), (q2, .inl (cI, 4, .inl f48))] := hD
  exact W.vret hx hb hr (fun t ht hW => ⟨⟨(), rfl, trivial, f27, f48, by rw [ht]; exact hP, hD⟩, hS.F ht⟩) hS.2.2 (fk_L_wipe 66 _ rfl)

set_option maxHeartbeats 8000000 in
set_option maxRecDepth 100000 in
theorem c_L_init (l : Launch) (D : va_G) (cI : ClassId) (h0 : Nat) (sz : Nat) : Met l mi_L_init.2.2.2.2.1 (wsOf mi_L_init) { frames := 1, cells := 2, slots := 20, locals := 64 * 1 } (va_Pc [.ref h0] (fun U => U.heap.size = sz ∧ va_P D vwCl [(h0, .inr (3, [.int 0, .int 0, .int 0, .int 0, .int 0, .null, .null]))] U.heap ∧ va_K D vwCl (tyL cI) U ∧ (∀ w ∈ nwTbl, va_Nw w U) ∧ va_D (fun _ => True) [(h0, .inr (3, [.int 0, .int 0, .int 0, .int 0, .int 0, .null, .null]))])) (va_Qv (fun _ : Unit => True) (fun _ t => ∃ (a1 : Nat) (a2 : Nat) (f1 : Nat → Int32) (f2 : Nat → Int32), va_P D vwCl [(h0, .inr (3, [.int 0, .int 0, .int 0, .int 0, .int 0, .ref a1, .ref a2])), (a1, .inl (cI, 16, .inl f1)), (a2, .inl (cI, 4, .inl f2))] t.heap ∧ va_D (va_A [(h0, .inr (3, [.int 0, .int 0, .int 0, .int 0, .int 0, .null, .null]))] sz) [(h0, .inr (3, [.int 0, .int 0, .int 0, .int 0, .int 0, .ref a1, .ref a2])), (a1, .inl (cI, 16, .inl f1)), (a2, .inl (cI, 4, .inl f2))]) (va_A [(h0, .inr (3, [.int 0, .int 0, .int 0, .int 0, .int 0, .null, .null]))] sz)) 2 20 (va_A [(h0, .inr (3, [.int 0, .int 0, .int 0, .int 0, .int 0, .null, .null]))] sz) := by
  refine Met.ofW (cc := cX3_init) (maxL := 1) (ret := none) (by decide) rfl ?_
  intro p e s m args below meth c s₁ B hml hv
  obtain ⟨rfl, hsz, hP, hK, hN, hD0⟩ := hv
  have hx := B.exec
  have hb := B.bytes
  have hr := B.returns
  have hts0 := atoms_spec (ws := wsOf mi_L_init) B.pre
  have hts : ∀ w ∈ gTbl, w.before _ s = true := fun w hw => hts0 w (List.mem_cons_of_mem _ hw)
  have hown : s.vm.findClass (RXn 3) = some m.cls := findClass_of_methodNamed B.named
  have hlocks := B.notSynchronized
  have hin : meth.name = "<init>" := (name_of_methodNamed B.named B.method).1
  subst hsz
  have hD := hD0.self (sz := s.heap.size)
  generalize hAe : va_A [(h0, .inr (3, [.int 0, .int 0, .int 0, .int 0, .int 0, .null, .null]))] s.heap.size = A at hD ⊢
  have hA : ∀ q : Nat, s.heap.size ≤ q → A q := fun q h => by rw [← hAe]; exact Or.inr h
  have hS : va_S A s.heap s.heap [] := va_S.rf
  have hP : va_P D vwCl [(h0, .inr (3, [.int 0, .int 0, .int 0, .int 0, .int 0, .null, .null]))] s.heap := hP
  have hl := lv_entry ([.ref h0]) (n := 1) (Nat.le_of_ble_eq_true rfl)
  rw [lg_entry_eq]
  generalize (lg_sl ([.ref h0]) ++ List.replicate (1 - (lg_sl ([.ref h0])).length) Slot.unset).toArray = ls at hl ⊢
  have hl : lv_has ls 1 [(0, .ref h0)] := hl
  refine lv_aload_n hx hb (fk_L_init 0 _ rfl) rfl (lv_at hl 0 rfl) ?_
  refine W.objInit hx hb hown (hts _ (inAt_g (i := 37) (by decide +kernel) rfl)) (hts _ (inAt_g (i := 24) (by decide +kernel) rfl)) (hts (.code objectInit ⟨#[0xb1]⟩ 1 none) (inAt_g (i := 25) (by decide +kernel) rfl)) rfl (by rw [hml]; exact hl.1) rfl (fk_L_init 1 _ rfl) (Nat.le_of_ble_eq_true rfl) (Nat.le_of_ble_eq_true rfl) ?_
  refine W.eq (g2 := F0 m 4 ls []) rfl ?_
  refine lv_aload_n hx hb (fk_L_init 4 _ rfl) rfl (lv_at hl 0 rfl) ?_
  refine lv_bipush (v := 16) hx hb (fk_L_init 5 _ rfl) (by decide) ?_
  refine va_newa (atype := .int) (ty := .int) (a0 := (16, .inl (fun _ => 0))) (N' := 16) hx hb (hts _ (inAt_g (i := 79) (by decide +kernel) rfl)) rfl hK hP hD hS hA (fun _ => rfl) (by decide) (by decide) (Nat.le_of_ble_eq_true rfl) (Nat.le_of_ble_eq_true rfl) (Nat.le_of_ble_eq_true rfl) (fk_L_init 7 _ rfl) (fun q7 cA H hKn hP hD hS => ?_)
  have ecA : cA = cI := ra_uni (ty := .int) (Or.inl rfl) (hKn.2 1 (cA, .int) rfl).2 (hKn.2 0 (cI, .int) rfl).2
  rw [ecA] at hP hD
  clear hKn ecA
  have hP : va_P D vwCl [(h0, .inr (3, [.int 0, .int 0, .int 0, .int 0, .int 0, .null, .null])), (q7, .inl (cI, 16, .inl (fun _ => 0)))] H := hP
  have hD : va_D A [(h0, .inr (3, [.int 0, .int 0, .int 0, .int 0, .int 0, .null, .null])), (q7, .inl (cI, 16, .inl (fun _ => 0)))] := hD
  refine W.widen (k := 1) (n := 16) (Nat.le_of_ble_eq_true rfl) (Nat.le_of_ble_eq_true rfl) ?_
  refine va_putF (D := D) (ci := 3) (v := .ref q7) (ty := .array .int) (C := RXn 3) (T := TXn 3) (N := nXn 3) hx hb hts (uwsIn 3 (by decide)) (tyn 3) (tyn_ok 3 (by decide)) (nmn 3 (by decide)) hown hK hP hD hS 0 rfl (vwCl_at 3 (by decide)) 5 (by decide) (hts _ (inAt_g (i := 58) (by decide +kernel) rfl)) (fun _ h9 => h9) rfl hin rfl (tyn_ok 3 (by decide) 5 (by decide)) rfl rfl (Nat.le_of_ble_eq_true rfl) (fk_L_init 9 _ rfl) (fun H locs hP hD hS => ?_)
  have hP : va_P D vwCl [(h0, .inr (3, [.int 0, .int 0, .int 0, .int 0, .int 0, .ref q7, .null])), (q7, .inl (cI, 16, .inl (fun _ => 0)))] H := hP
  have hD : va_D A [(h0, .inr (3, [.int 0, .int 0, .int 0, .int 0, .int 0, .ref q7, .null])), (q7, .inl (cI, 16, .inl (fun _ => 0)))] := hD
  refine lv_aload_n hx hb (fk_L_init 12 _ rfl) rfl (lv_at hl 0 rfl) ?_
  refine lv_iconst (v := 4) hx hb (fk_L_init 13 _ rfl) rfl ?_
  refine va_newa (atype := .int) (ty := .int) (a0 := (4, .inl (fun _ => 0))) (N' := 4) hx hb (hts _ (inAt_g (i := 79) (by decide +kernel) rfl)) rfl hK hP hD hS hA (fun _ => rfl) (by decide) (by decide) (Nat.le_of_ble_eq_true rfl) (Nat.le_of_ble_eq_true rfl) (Nat.le_of_ble_eq_true rfl) (fk_L_init 14 _ rfl) (fun q14 cA H hKn hP hD hS => ?_)
  have ecA : cA = cI := ra_uni (ty := .int) (Or.inl rfl) (hKn.2 1 (cA, .int) rfl).2 (hKn.2 0 (cI, .int) rfl).2
  rw [ecA] at hP hD
  clear hKn ecA
  have hP : va_P D vwCl [(h0, .inr (3, [.int 0, .int 0, .int 0, .int 0, .int 0, .ref q7, .null])), (q7, .inl (cI, 16, .inl (fun _ => 0))), (q14, .inl (cI, 4, .inl (fun _ => 0)))] H := hP
  have hD : va_D A [(h0, .inr (3, [.int 0, .int 0, .int 0, .int 0, .int 0, .ref q7, .null])), (q7, .inl (cI, 16, .inl (fun _ => 0))), (q14, .inl (cI, 4, .inl (fun _ => 0)))] := hD
  refine W.widen (k := 2) (n := 20) (Nat.le_of_ble_eq_true rfl) (Nat.le_of_ble_eq_true rfl) ?_
  refine va_putF (D := D) (ci := 3) (v := .ref q14) (ty := .array .int) (C := RXn 3) (T := TXn 3) (N := nXn 3) hx hb hts (uwsIn 3 (by decide)) (tyn 3) (tyn_ok 3 (by decide)) (nmn 3 (by decide)) hown hK hP hD hS 0 rfl (vwCl_at 3 (by decide)) 6 (by decide) (hts _ (inAt_g (i := 61) (by decide +kernel) rfl)) (fun _ h9 => h9) rfl hin rfl (tyn_ok 3 (by decide) 6 (by decide)) rfl rfl (Nat.le_of_ble_eq_true rfl) (fk_L_init 16 _ rfl) (fun H locs hP hD hS => ?_)
  have hP : va_P D vwCl [(h0, .inr (3, [.int 0, .int 0, .int 0, .int 0, .int 0, .ref q7, .ref q14])), (q7, .inl (cI, 16, .inl (fun _ => 0))), (q14, .inl (cI, 4, .inl (fun _ => 0)))] H := hP
  have hD : va_D A [(h0, .inr (3, [.int 0, .int 0, .int 0, .int 0, .int 0, .ref q7, .ref q14])), (q7, .inl (cI, 16, .inl (fun _ => 0))), (q14, .inl (cI, 4, .inl (fun _ => 0)))] := hD
  refine lv_aload_n hx hb (fk_L_init 19 _ rfl) rfl (lv_at hl 0 rfl) ?_
  have hPc := hP.sub (ws' := [(h0, .inr (3, [.int 0, .int 0, .int 0, .int 0, .int 0, .ref q7, .ref q14])), (q7, .inl (cI, 16, .inl (fun _ => 0))), (q14, .inl (cI, 4, .inl (fun _ => 0)))]) [0, 1, 2] rfl
  have hDc := hD.sub (ws' := [(h0, .inr (3, [.int 0, .int 0, .int 0, .int 0, .int 0, .ref q7, .ref q14])), (q7, .inl (cI, 16, .inl (fun _ => 0))), (q14, .inl (cI, 4, .inl (fun _ => 0)))]) [0, 1, 2] (by decide) rfl
  have hFc := va_free (wc := [(h0, .inr (3, [.int 0, .int 0, .int 0, .int 0, .int 0, .ref q7, .ref q14])), (q7, .inl (cI, 16, .inl (fun _ => 0))), (q14, .inl (cI, 4, .inl (fun _ => 0)))]) hD hS hA [0, 1, 2] rfl
  refine va_callv (va_runV (As := []) (rest := []) (b := h0) (C := RXn 3) ⟨hx, hb, hml, hown, hts⟩ (c_L_wipe l D cI h0 q7 q14 (fun _ => 0) (fun _ => 0) 0 0 0 0 0 H.size) ⟨callB_of 0 hts (goodws ck_L_wipe) rfl rfl rfl (hts _ ck_L_wipe.2.1) (hts _ (inAt_g (i := 38) (by decide +kernel) rfl)) ck_L_wipe.2.2.2.2.1 ⟨Nat.le_of_ble_eq_true rfl, Nat.le_of_ble_eq_true rfl⟩, hts _ cv_L_wipe.1, hts _ cv_L_wipe.2⟩ ⟨fun a U g mk q => by obtain ⟨q0, q1, qP, qK, qN, qD⟩ := q; exact ⟨q0, q1, qP, va_K.moved (u := U) (U := U.calling g mk a) (Vm.Alike.refl U.vm) qK, nw_blind qN, qD⟩, va_recv (cl := vwCl) hK hP (vwCl_at 3 (by decide)) (q0 := 0) (a := h0) (ci := 3) (fs := [.int 0, .int 0, .int 0, .int 0, .int 0, .ref q7, .ref q14]) rfl, fun U hU hW => ⟨rfl, by rw [hU], by rw [hU]; exact hPc, va_K.moved hW.alike hK, nw_warm hW hN, hDc.weaken (fun _ _ _ _ => trivial)⟩⟩ rfl rfl hl.1 rfl (lv_room (Nat.le_of_ble_eq_true rfl)) (fk_L_init 20 _ rfl) ⟨Nat.le_of_ble_eq_true rfl, Nat.le_of_ble_eq_true rfl⟩) hS (fun q _ h => hFc q h) hFc (fun u t H1 locs ht hvm hw hB hz1 hk1 hS => ?_)
  obtain ⟨fa20, fb20, hP1, hD1⟩ := hB
  rw [ht] at hP1
  obtain ⟨hP, hD⟩ := va_join (wr := []) (w1 := [(h0, .inr (3, [.int 0, .int 0, .int 0, .int 0, .int 0, .ref q7, .ref q14])), (q7, .inl (cI, 16, .inl fa20)), (q14, .inl (cI, 4, .inl fb20))]) hP hD [0, 1, 2] [] rfl rfl (by decide) (by decide) hk1 hFc hP1 hD1
  generalize H1 = H at hP hS ⊢
  have hP : va_P D vwCl [(h0, .inr (3, [.int 0, .int 0, .int 0, .int 0, .int 0, .ref q7, .ref q14])), (q7, .inl (cI, 16, .inl fa20)), (q14, .inl (cI, 4, .inl fb20))] H := hP
  have hD : va_D A [(h0, .inr (3, [.int 0, .int 0, .int 0, .int 0, .int 0, .ref q7, .ref q14])), (q7, .inl (cI, 16, .inl fa20)), (q14, .inl (cI, 4, .inl fb20))] := hD
  clear hPc hDc hFc hP1 hD1 hk1 hz1 ht hvm hw
  refine W.widen (k := 2) (n := 20) (Nat.le_of_ble_eq_true rfl) (Nat.le_of_ble_eq_true rfl) ?_
  have hP9 := hP.sub (ws' := [(h0, .inr (3, [.int 0, .int 0, .int 0, .int 0, .int 0, .ref q7, .ref q14])), (q7, .inl (cI, 16, .inl fa20)), (q14, .inl (cI, 4, .inl fb20))]) [0, 1, 2] rfl
  have hD9 := hD.sub (ws' := [(h0, .inr (3, [.int 0, .int 0, .int 0, .int 0, .int 0, .ref q7, .ref q14])), (q7, .inl (cI, 16, .inl fa20)), (q14, .inl (cI, 4, .inl fb20))]) [0, 1, 2] (by decide) rfl
  exact W.vret hx hb hr (fun t ht hW => ⟨⟨(), rfl, trivial, q7, q14, fa20, fb20, by rw [ht]; exact hP9, hD9⟩, hS.F ht⟩) hS.2.2 (fk_L_init 23 _ rfl)

set_option maxHeartbeats 8000000 in
set_option maxRecDepth 100000 in
theorem c_G_init (l : Launch) (D : va_G) (cI : ClassId) (h0 : Nat) (sz : Nat) : Met l mi_G_init.2.2.2.2.1 (wsOf mi_G_init) { frames := 1, cells := 6, slots := 66, locals := 64 * 1 } (va_Pc [.ref h0] (fun U => U.heap.size = sz ∧ va_P D vwCl [(h0, .inr (0, [.null, .null, .null, .int 0, .int 0, .null, .null, .null, .int 0]))] U.heap ∧ va_K D vwCl (tyL cI) U ∧ (∀ w ∈ nwTbl, va_Nw w U) ∧ va_D (fun _ => True) [(h0, .inr (0, [.null, .null, .null, .int 0, .int 0, .null, .null, .null, .int 0]))])) (va_Qv (fun _ : Unit => True) (fun _ t => ∃ (a1 : Nat) (a2 : Nat) (a3 : Nat) (a4 : Nat) (a5 : Nat) (a6 : Nat) (f1 : Nat → Int32) (f2 : Nat → Int32) (f3 : Nat → Int32) (f4 : Nat → Int32) (f5 : Nat → Int32) (f6 : Nat → Int32), va_P D vwCl [(h0, .inr (0, [.ref a1, .ref a2, .ref a3, .int 0, .int 0, .ref a4, .ref a5, .ref a6, .int 0])), (a1, .inl (cI, 16, .inl f1)), (a2, .inl (cI, 16, .inl f2)), (a3, .inl (cI, 4, .inl f3)), (a4, .inl (cI, 10, .inl f4)), (a5, .inl (cI, 10, .inl f5)), (a6, .inl (cI, 10, .inl f6))] t.heap ∧ va_D (va_A [(h0, .inr (0, [.null, .null, .null, .int 0, .int 0, .null, .null, .null, .int 0]))] sz) [(h0, .inr (0, [.ref a1, .ref a2, .ref a3, .int 0, .int 0, .ref a4, .ref a5, .ref a6, .int 0])), (a1, .inl (cI, 16, .inl f1)), (a2, .inl (cI, 16, .inl f2)), (a3, .inl (cI, 4, .inl f3)), (a4, .inl (cI, 10, .inl f4)), (a5, .inl (cI, 10, .inl f5)), (a6, .inl (cI, 10, .inl f6))] ∧ (∀ i, i < 16 → f2 i = (-9)) ∧ (∀ i, i < 4 → f3 i = (4))) (va_A [(h0, .inr (0, [.null, .null, .null, .int 0, .int 0, .null, .null, .null, .int 0]))] sz)) 6 66 (va_A [(h0, .inr (0, [.null, .null, .null, .int 0, .int 0, .null, .null, .null, .int 0]))] sz) := by
  refine Met.ofW (cc := cX0_init) (maxL := 2) (ret := none) (by decide) rfl ?_
  intro p e s m args below meth c s₁ B hml hv
  obtain ⟨rfl, hsz, hP, hK, hN, hD0⟩ := hv
  have hx := B.exec
  have hb := B.bytes
  have hr := B.returns
  have hts0 := atoms_spec (ws := wsOf mi_G_init) B.pre
  have hts : ∀ w ∈ gTbl, w.before _ s = true := fun w hw => hts0 w (List.mem_cons_of_mem _ hw)
  have hown : s.vm.findClass (RXn 0) = some m.cls := findClass_of_methodNamed B.named
  have hlocks := B.notSynchronized
  have hin : meth.name = "<init>" := (name_of_methodNamed B.named B.method).1
  subst hsz
  have hD := hD0.self (sz := s.heap.size)
  generalize hAe : va_A [(h0, .inr (0, [.null, .null, .null, .int 0, .int 0, .null, .null, .null, .int 0]))] s.heap.size = A at hD ⊢
  have hA : ∀ q : Nat, s.heap.size ≤ q → A q := fun q h => by rw [← hAe]; exact Or.inr h
  have hS : va_S A s.heap s.heap [] := va_S.rf
  have hP : va_P D vwCl [(h0, .inr (0, [.null, .null, .null, .int 0, .int 0, .null, .null, .null, .int 0]))] s.heap := hP
  have hl := lv_entry ([.ref h0]) (n := 2) (Nat.le_of_ble_eq_true rfl)
  rw [lg_entry_eq]
  generalize (lg_sl ([.ref h0]) ++ List.replicate (2 - (lg_sl ([.ref h0])).length) Slot.unset).toArray = ls at hl ⊢
  have hl : lv_has ls 2 [(0, .ref h0)] := hl
  refine lv_aload_n hx hb (fk_G_init 0 _ rfl) rfl (lv_at hl 0 rfl) ?_
  refine W.objInit hx hb hown (hts _ (inAt_g (i := 120) (by decide +kernel) rfl)) (hts _ (inAt_g (i := 24) (by decide +kernel) rfl)) (hts (.code objectInit ⟨#[0xb1]⟩ 1 none) (inAt_g (i := 25) (by decide +kernel) rfl)) rfl (by rw [hml]; exact hl.1) rfl (fk_G_init 1 _ rfl) (Nat.le_of_ble_eq_true rfl) (Nat.le_of_ble_eq_true rfl) ?_
  refine W.eq (g2 := F0 m 4 ls []) rfl ?_
  refine lv_aload_n hx hb (fk_G_init 4 _ rfl) rfl (lv_at hl 0 rfl) ?_
  refine lv_bipush (v := 16) hx hb (fk_G_init 5 _ rfl) (by decide) ?_
  refine va_newa (atype := .int) (ty := .int) (a0 := (16, .inl (fun _ => 0))) (N' := 16) hx hb (hts _ (inAt_g (i := 79) (by decide +kernel) rfl)) rfl hK hP hD hS hA (fun _ => rfl) (by decide) (by decide) (Nat.le_of_ble_eq_true rfl) (Nat.le_of_ble_eq_true rfl) (Nat.le_of_ble_eq_true rfl) (fk_G_init 7 _ rfl) (fun q7 cA H hKn hP hD hS => ?_)
  have ecA : cA = cI := ra_uni (ty := .int) (Or.inl rfl) (hKn.2 1 (cA, .int) rfl).2 (hKn.2 0 (cI, .int) rfl).2
  rw [ecA] at hP hD
  clear hKn ecA
  have hP : va_P D vwCl [(h0, .inr (0, [.null, .null, .null, .int 0, .int 0, .null, .null, .null, .int 0])), (q7, .inl (cI, 16, .inl (fun _ => 0)))] H := hP
  have hD : va_D A [(h0, .inr (0, [.null, .null, .null, .int 0, .int 0, .null, .null, .null, .int 0])), (q7, .inl (cI, 16, .inl (fun _ => 0)))] := hD
  refine W.widen (k := 1) (n := 16) (Nat.le_of_ble_eq_true rfl) (Nat.le_of_ble_eq_true rfl) ?_
  refine va_putF (D := D) (ci := 0) (v := .ref q7) (ty := .array .int) (C := RXn 0) (T := TXn 0) (N := nXn 0) hx hb hts (uwsIn 0 (by decide)) (tyn 0) (tyn_ok 0 (by decide)) (nmn 0 (by decide)) hown hK hP hD hS 0 rfl (vwCl_at 0 (by decide)) 0 (by decide) (hts _ (inAt_g (i := 121) (by decide +kernel) rfl)) (fun _ h9 => h9) rfl hin rfl (tyn_ok 0 (by decide) 0 (by decide)) rfl rfl (Nat.le_of_ble_eq_true rfl) (fk_G_init 9 _ rfl) (fun H locs hP hD hS => ?_)
  have hP : va_P D vwCl [(h0, .inr (0, [.ref q7, .null, .null, .int 0, .int 0, .null, .null, .null, .int 0])), (q7, .inl (cI, 16, .inl (fun _ => 0)))] H := hP
  have hD : va_D A [(h0, .inr (0, [.ref q7, .null, .null, .int 0, .int 0, .null, .null, .null, .int 0])), (q7, .inl (cI, 16, .inl (fun _ => 0)))] := hD
  refine lv_aload_n hx hb (fk_G_init 12 _ rfl) rfl (lv_at hl 0 rfl) ?_
  refine lv_bipush (v := 16) hx hb (fk_G_init 13 _ rfl) (by decide) ?_
  refine va_newa (atype := .int) (ty := .int) (a0 := (16, .inl (fun _ => 0))) (N' := 16) hx hb (hts _ (inAt_g (i := 79) (by decide +kernel) rfl)) rfl hK hP hD hS hA (fun _ => rfl) (by decide) (by decide) (Nat.le_of_ble_eq_true rfl) (Nat.le_of_ble_eq_true rfl) (Nat.le_of_ble_eq_true rfl) (fk_G_init 15 _ rfl) (fun q15 cA H hKn hP hD hS => ?_)
  have ecA : cA = cI := ra_uni (ty := .int) (Or.inl rfl) (hKn.2 1 (cA, .int) rfl).2 (hKn.2 0 (cI, .int) rfl).2
  rw [ecA] at hP hD
  clear hKn ecA
  have hP : va_P D vwCl [(h0, .inr (0, [.ref q7, .null, .null, .int 0, .int 0, .null, .null, .null, .int 0])), (q7, .inl (cI, 16, .inl (fun _ => 0))), (q15, .inl (cI, 16, .inl (fun _ => 0)))] H := hP
  have hD : va_D A [(h0, .inr (0, [.ref q7, .null, .null, .int 0, .int 0, .null, .null, .null, .int 0])), (q7, .inl (cI, 16, .inl (fun _ => 0))), (q15, .inl (cI, 16, .inl (fun _ => 0)))] := hD
  refine W.widen (k := 2) (n := 32) (Nat.le_of_ble_eq_true rfl) (Nat.le_of_ble_eq_true rfl) ?_
  refine va_putF (D := D) (ci := 0) (v := .ref q15) (ty := .array .int) (C := RXn 0) (T := TXn 0) (N := nXn 0) hx hb hts (uwsIn 0 (by decide)) (tyn 0) (tyn_ok 0 (by decide)) (nmn 0 (by decide)) hown hK hP hD hS 0 rfl (vwCl_at 0 (by decide)) 1 (by decide) (hts _ (inAt_g (i := 123) (by decide +kernel) rfl)) (fun _ h9 => h9) rfl hin rfl (tyn_ok 0 (by decide) 1 (by decide)) rfl rfl (Nat.le_of_ble_eq_true rfl) (fk_G_init 17 _ rfl) (fun H locs hP hD hS => ?_)
  have hP : va_P D vwCl [(h0, .inr (0, [.ref q7, .ref q15, .null, .int 0, .int 0, .null, .null, .null, .int 0])), (q7, .inl (cI, 16, .inl (fun _ => 0))), (q15, .inl (cI, 16, .inl (fun _ => 0)))] H := hP
  have hD : va_D A [(h0, .inr (0, [.ref q7, .ref q15, .null, .int 0, .int 0, .null, .null, .null, .int 0])), (q7, .inl (cI, 16, .inl (fun _ => 0))), (q15, .inl (cI, 16, .inl (fun _ => 0)))] := hD
  refine lv_aload_n hx hb (fk_G_init 20 _ rfl) rfl (lv_at hl 0 rfl) ?_
  refine lv_iconst (v := 4) hx hb (fk_G_init 21 _ rfl) rfl ?_
  refine va_newa (atype := .int) (ty := .int) (a0 := (4, .inl (fun _ => 0))) (N' := 4) hx hb (hts _ (inAt_g (i := 79) (by decide +kernel) rfl)) rfl hK hP hD hS hA (fun _ => rfl) (by decide) (by decide) (Nat.le_of_ble_eq_true rfl) (Nat.le_of_ble_eq_true rfl) (Nat.le_of_ble_eq_true rfl) (fk_G_init 22 _ rfl) (fun q22 cA H hKn hP hD hS => ?_)
  have ecA : cA = cI := ra_uni (ty := .int) (Or.inl rfl) (hKn.2 1 (cA, .int) rfl).2 (hKn.2 0 (cI, .int) rfl).2
  rw [ecA] at hP hD
  clear hKn ecA
  have hP : va_P D vwCl [(h0, .inr (0, [.ref q7, .ref q15, .null, .int 0, .int 0, .null, .null, .null, .int 0])), (q7, .inl (cI, 16, .inl (fun _ => 0))), (q15, .inl (cI, 16, .inl (fun _ => 0))), (q22, .inl (cI, 4, .inl (fun _ => 0)))] H := hP
  have hD : va_D A [(h0, .inr (0, [.ref q7, .ref q15, .null, .int 0, .int 0, .null, .null, .null, .int 0])), (q7, .inl (cI, 16, .inl (fun _ => 0))), (q15, .inl (cI, 16, .inl (fun _ => 0))), (q22, .inl (cI, 4, .inl (fun _ => 0)))] := hD
  refine W.widen (k := 3) (n := 36) (Nat.le_of_ble_eq_true rfl) (Nat.le_of_ble_eq_true rfl) ?_
  refine va_putF (D := D) (ci := 0) (v := .ref q22) (ty := .array .int) (C := RXn 0) (T := TXn 0) (N := nXn 0) hx hb hts (uwsIn 0 (by decide)) (tyn 0) (tyn_ok 0 (by decide)) (nmn 0 (by decide)) hown hK hP hD hS 0 rfl (vwCl_at 0 (by decide)) 2 (by decide) (hts _ (inAt_g (i := 124) (by decide +kernel) rfl)) (fun _ h9 => h9) rfl hin rfl (tyn_ok 0 (by decide) 2 (by decide)) rfl rfl (Nat.le_of_ble_eq_true rfl) (fk_G_init 24 _ rfl) (fun H locs hP hD hS => ?_)
  have hP : va_P D vwCl [(h0, .inr (0, [.ref q7, .ref q15, .ref q22, .int 0, .int 0, .null, .null, .null, .int 0])), (q7, .inl (cI, 16, .inl (fun _ => 0))), (q15, .inl (cI, 16, .inl (fun _ => 0))), (q22, .inl (cI, 4, .inl (fun _ => 0)))] H := hP
  have hD : va_D A [(h0, .inr (0, [.ref q7, .ref q15, .ref q22, .int 0, .int 0, .null, .null, .null, .int 0])), (q7, .inl (cI, 16, .inl (fun _ => 0))), (q15, .inl (cI, 16, .inl (fun _ => 0))), (q22, .inl (cI, 4, .inl (fun _ => 0)))] := hD
  refine lv_aload_n hx hb (fk_G_init 27 _ rfl) rfl (lv_at hl 0 rfl) ?_
  refine lv_bipush (v := 10) hx hb (fk_G_init 28 _ rfl) (by decide) ?_
  refine va_newa (atype := .int) (ty := .int) (a0 := (10, .inl (fun _ => 0))) (N' := 10) hx hb (hts _ (inAt_g (i := 79) (by decide +kernel) rfl)) rfl hK hP hD hS hA (fun _ => rfl) (by decide) (by decide) (Nat.le_of_ble_eq_true rfl) (Nat.le_of_ble_eq_true rfl) (Nat.le_of_ble_eq_true rfl) (fk_G_init 30 _ rfl) (fun q30 cA H hKn hP hD hS => ?_)
  have ecA : cA = cI := ra_uni (ty := .int) (Or.inl rfl) (hKn.2 1 (cA, .int) rfl).2 (hKn.2 0 (cI, .int) rfl).2
  rw [ecA] at hP hD
  clear hKn ecA
  have hP : va_P D vwCl [(h0, .inr (0, [.ref q7, .ref q15, .ref q22, .int 0, .int 0, .null, .null, .null, .int 0])), (q7, .inl (cI, 16, .inl (fun _ => 0))), (q15, .inl (cI, 16, .inl (fun _ => 0))), (q22, .inl (cI, 4, .inl (fun _ => 0))), (q30, .inl (cI, 10, .inl (fun _ => 0)))] H := hP
  have hD : va_D A [(h0, .inr (0, [.ref q7, .ref q15, .ref q22, .int 0, .int 0, .null, .null, .null, .int 0])), (q7, .inl (cI, 16, .inl (fun _ => 0))), (q15, .inl (cI, 16, .inl (fun _ => 0))), (q22, .inl (cI, 4, .inl (fun _ => 0))), (q30, .inl (cI, 10, .inl (fun _ => 0)))] := hD
  refine W.widen (k := 4) (n := 46) (Nat.le_of_ble_eq_true rfl) (Nat.le_of_ble_eq_true rfl) ?_
  refine va_putF (D := D) (ci := 0) (v := .ref q30) (ty := .array .int) (C := RXn 0) (T := TXn 0) (N := nXn 0) hx hb hts (uwsIn 0 (by decide)) (tyn 0) (tyn_ok 0 (by decide)) (nmn 0 (by decide)) hown hK hP hD hS 0 rfl (vwCl_at 0 (by decide)) 5 (by decide) (hts _ (inAt_g (i := 130) (by decide +kernel) rfl)) (fun _ h9 => h9) rfl hin rfl (tyn_ok 0 (by decide) 5 (by decide)) rfl rfl (Nat.le_of_ble_eq_true rfl) (fk_G_init 32 _ rfl) (fun H locs hP hD hS => ?_)
  have hP : va_P D vwCl [(h0, .inr (0, [.ref q7, .ref q15, .ref q22, .int 0, .int 0, .ref q30, .null, .null, .int 0])), (q7, .inl (cI, 16, .inl (fun _ => 0))), (q15, .inl (cI, 16, .inl (fun _ => 0))), (q22, .inl (cI, 4, .inl (fun _ => 0))), (q30, .inl (cI, 10, .inl (fun _ => 0)))] H := hP
  have hD : va_D A [(h0, .inr (0, [.ref q7, .ref q15, .ref q22, .int 0, .int 0, .ref q30, .null, .null, .int 0])), (q7, .inl (cI, 16, .inl (fun _ => 0))), (q15, .inl (cI, 16, .inl (fun _ => 0))), (q22, .inl (cI, 4, .inl (fun _ => 0))), (q30, .inl (cI, 10, .inl (fun _ => 0)))] := hD
  refine lv_aload_n hx hb (fk_G_init 35 _ rfl) rfl (lv_at hl 0 rfl) ?_
  refine lv_bipush (v := 10) hx hb (fk_G_init 36 _ rfl) (by decide) ?_
  refine va_newa (atype := .int) (ty := .int) (a0 := (10, .inl (fun _ => 0))) (N' := 10) hx hb (hts _ (inAt_g (i := 79) (by decide +kernel) rfl)) rfl hK hP hD hS hA (fun _ => rfl) (by decide) (by decide) (Nat.le_of_ble_eq_true rfl) (Nat.le_of_ble_eq_true rfl) (Nat.le_of_ble_eq_true rfl) (fk_G_init 38 _ rfl) (fun q38 cA H hKn hP hD hS => ?_)
  have ecA : cA = cI := ra_uni (ty := .int) (Or.inl rfl) (hKn.2 1 (cA, .int) rfl).2 (hKn.2 0 (cI, .int) rfl).2
  rw [ecA] at hP hD
  clear hKn ecA
  have hP : va_P D vwCl [(h0, .inr (0, [.ref q7, .ref q15, .ref q22, .int 0, .int 0, .ref q30, .null, .null, .int 0])), (q7, .inl (cI, 16, .inl (fun _ => 0))), (q15, .inl (cI, 16, .inl (fun _ => 0))), (q22, .inl (cI, 4, .inl (fun _ => 0))), (q30, .inl (cI, 10, .inl (fun _ => 0))), (q38, .inl (cI, 10, .inl (fun _ => 0)))] H := hP
  have hD : va_D A [(h0, .inr (0, [.ref q7, .ref q15, .ref q22, .int 0, .int 0, .ref q30, .null, .null, .int 0])), (q7, .inl (cI, 16, .inl (fun _ => 0))), (q15, .inl (cI, 16, .inl (fun _ => 0))), (q22, .inl (cI, 4, .inl (fun _ => 0))), (q30, .inl (cI, 10, .inl (fun _ => 0))), (q38, .inl (cI, 10, .inl (fun _ => 0)))] := hD
  refine W.widen (k := 5) (n := 56) (Nat.le_of_ble_eq_true rfl) (Nat.le_of_ble_eq_true rfl) ?_
  refine va_putF (D := D) (ci := 0) (v := .ref q38) (ty := .array .int) (C := RXn 0) (T := TXn 0) (N := nXn 0) hx hb hts (uwsIn 0 (by decide)) (tyn 0) (tyn_ok 0 (by decide)) (nmn 0 (by decide)) hown hK hP hD hS 0 rfl (vwCl_at 0 (by decide)) 6 (by decide) (hts _ (inAt_g (i := 131) (by decide +kernel) rfl)) (fun _ h9 => h9) rfl hin rfl (tyn_ok 0 (by decide) 6 (by decide)) rfl rfl (Nat.le_of_ble_eq_true rfl) (fk_G_init 40 _ rfl) (fun H locs hP hD hS => ?_)
  have hP : va_P D vwCl [(h0, .inr (0, [.ref q7, .ref q15, .ref q22, .int 0, .int 0, .ref q30, .ref q38, .null, .int 0])), (q7, .inl (cI, 16, .inl (fun _ => 0))), (q15, .inl (cI, 16, .inl (fun _ => 0))), (q22, .inl (cI, 4, .inl (fun _ => 0))), (q30, .inl (cI, 10, .inl (fun _ => 0))), (q38, .inl (cI, 10, .inl (fun _ => 0)))] H := hP
  have hD : va_D A [(h0, .inr (0, [.ref q7, .ref q15, .ref q22, .int 0, .int 0, .ref q30, .ref q38, .null, .int 0])), (q7, .inl (cI, 16, .inl (fun _ => 0))), (q15, .inl (cI, 16, .inl (fun _ => 0))), (q22, .inl (cI, 4, .inl (fun _ => 0))), (q30, .inl (cI, 10, .inl (fun _ => 0))), (q38, .inl (cI, 10, .inl (fun _ => 0)))] := hD
  refine lv_aload_n hx hb (fk_G_init 43 _ rfl) rfl (lv_at hl 0 rfl) ?_
  refine lv_bipush (v := 10) hx hb (fk_G_init 44 _ rfl) (by decide) ?_
  refine va_newa (atype := .int) (ty := .int) (a0 := (10, .inl (fun _ => 0))) (N' := 10) hx hb (hts _ (inAt_g (i := 79) (by decide +kernel) rfl)) rfl hK hP hD hS hA (fun _ => rfl) (by decide) (by decide) (Nat.le_of_ble_eq_true rfl) (Nat.le_of_ble_eq_true rfl) (Nat.le_of_ble_eq_true rfl) (fk_G_init 46 _ rfl) (fun q46 cA H hKn hP hD hS => ?_)
  have ecA : cA = cI := ra_uni (ty := .int) (Or.inl rfl) (hKn.2 1 (cA, .int) rfl).2 (hKn.2 0 (cI, .int) rfl).2
  rw [ecA] at hP hD
  clear hKn ecA
  have hP : va_P D vwCl [(h0, .inr (0, [.ref q7, .ref q15, .ref q22, .int 0, .int 0, .ref q30, .ref q38, .null, .int 0])), (q7, .inl (cI, 16, .inl (fun _ => 0))), (q15, .inl (cI, 16, .inl (fun _ => 0))), (q22, .inl (cI, 4, .inl (fun _ => 0))), (q30, .inl (cI, 10, .inl (fun _ => 0))), (q38, .inl (cI, 10, .inl (fun _ => 0))), (q46, .inl (cI, 10, .inl (fun _ => 0)))] H := hP
  have hD : va_D A [(h0, .inr (0, [.ref q7, .ref q15, .ref q22, .int 0, .int 0, .ref q30, .ref q38, .null, .int 0])), (q7, .inl (cI, 16, .inl (fun _ => 0))), (q15, .inl (cI, 16, .inl (fun _ => 0))), (q22, .inl (cI, 4, .inl (fun _ => 0))), (q30, .inl (cI, 10, .inl (fun _ => 0))), (q38, .inl (cI, 10, .inl (fun _ => 0))), (q46, .inl (cI, 10, .inl (fun _ => 0)))] := hD
  refine W.widen (k := 6) (n := 66) (Nat.le_of_ble_eq_true rfl) (Nat.le_of_ble_eq_true rfl) ?_
  refine va_putF (D := D) (ci := 0) (v := .ref q46) (ty := .array .int) (C := RXn 0) (T := TXn 0) (N := nXn 0) hx hb hts (uwsIn 0 (by decide)) (tyn 0) (tyn_ok 0 (by decide)) (nmn 0 (by decide)) hown hK hP hD hS 0 rfl (vwCl_at 0 (by decide)) 7 (by decide) (hts _ (inAt_g (i := 132) (by decide +kernel) rfl)) (fun _ h9 => h9) rfl hin rfl (tyn_ok 0 (by decide) 7 (by decide)) rfl rfl (Nat.le_of_ble_eq_true rfl) (fk_G_init 48 _ rfl) (fun H locs hP hD hS => ?_)
  have hP : va_P D vwCl [(h0, .inr (0, [.ref q7, .ref q15, .ref q22, .int 0, .int 0, .ref q30, .ref q38, .ref q46, .int 0])), (q7, .inl (cI, 16, .inl (fun _ => 0))), (q15, .inl (cI, 16, .inl (fun _ => 0))), (q22, .inl (cI, 4, .inl (fun _ => 0))), (q30, .inl (cI, 10, .inl (fun _ => 0))), (q38, .inl (cI, 10, .inl (fun _ => 0))), (q46, .inl (cI, 10, .inl (fun _ => 0)))] H := hP
  have hD : va_D A [(h0, .inr (0, [.ref q7, .ref q15, .ref q22, .int 0, .int 0, .ref q30, .ref q38, .ref q46, .int 0])), (q7, .inl (cI, 16, .inl (fun _ => 0))), (q15, .inl (cI, 16, .inl (fun _ => 0))), (q22, .inl (cI, 4, .inl (fun _ => 0))), (q30, .inl (cI, 10, .inl (fun _ => 0))), (q38, .inl (cI, 10, .inl (fun _ => 0))), (q46, .inl (cI, 10, .inl (fun _ => 0)))] := hD
  refine lv_iconst (v := 0) hx hb (fk_G_init 51 _ rfl) rfl ?_
  refine lv_istore_n (lv' := [(1, .int 0), (0, .ref h0)]) hx hb (fk_G_init 52 _ rfl) rfl (lv_sub (l' := [(0, .ref h0)]) hl [0] rfl) (by decide) rfl (fun ls hl => ?_)
  refine fill_loop (o := 0) (cells := 6) (slots := 66) (nL := 2) (pc0 := 53) (pc1 := 56) (pc2 := 66) (ex := 73) (N := 16) (cst := (-9)) (idx := 15) hx hb hts (by decide) hown hK (by decide) (by decide) (fk_G_init 53 _ rfl) (fun _ _ _ _ h => lv_bipush (v := nI 16) hx hb (fk_G_init 54 _ rfl) (by decide) h) (fk_G_init 56 _ rfl) (by decide) (fk_G_init 59 _ rfl) (fk_G_init 60 _ rfl) (fk_G_init 63 _ rfl) (fun _ _ _ _ h => lv_bipush (v := (-9)) hx hb (fk_G_init 64 _ rfl) (by decide) h) (fk_G_init 66 _ rfl) (fk_G_init 67 _ rfl) (fk_G_init 70 _ rfl) (by decide) (ws := fun f53 => [(h0, .inr (0, [.ref q7, .ref q15, .ref q22, .int 0, .int 0, .ref q30, .ref q38, .ref q46, .int 0])), (q7, .inl (cI, 16, .inl (fun _ => 0))), (q15, .inl (cI, 16, .inl f53)), (q22, .inl (cI, 4, .inl (fun _ => 0))), (q30, .inl (cI, 10, .inl (fun _ => 0))), (q38, .inl (cI, 10, .inl (fun _ => 0))), (q46, .inl (cI, 10, .inl (fun _ => 0)))]) (oi := 0) (ai := 2) (k := 1) (by decide) (fun _ => rfl) (fun _ => rfl) (fun _ _ _ => rfl) rfl (inAt_g (i := 123) (by decide +kernel) rfl) (fun f53 H locs ls hP hD hS hf53 hl => ?_) 16 0 (fun _ => 0) _ _ ls (Nat.zero_add _) hP hD hS (fun i hi => absurd hi (Nat.not_lt_zero i)) hl
  have hP : va_P D vwCl [(h0, .inr (0, [.ref q7, .ref q15, .ref q22, .int 0, .int 0, .ref q30, .ref q38, .ref q46, .int 0])), (q7, .inl (cI, 16, .inl (fun _ => 0))), (q15, .inl (cI, 16, .inl f53)), (q22, .inl (cI, 4, .inl (fun _ => 0))), (q30, .inl (cI, 10, .inl (fun _ => 0))), (q38, .inl (cI, 10, .inl (fun _ => 0))), (q46, .inl (cI, 10, .inl (fun _ => 0)))] H := hP
  have hD : va_D A [(h0, .inr (0, [.ref q7, .ref q15, .ref q22, .int 0, .int 0, .ref q30, .ref q38, .ref q46, .int 0])), (q7, .inl (cI, 16, .inl (fun _ => 0))), (q15, .inl (cI, 16, .inl f53)), (q22, .inl (cI, 4, .inl (fun _ => 0))), (q30, .inl (cI, 10, .inl (fun _ => 0))), (q38, .inl (cI, 10, .inl (fun _ => 0))), (q46, .inl (cI, 10, .inl (fun _ => 0)))] := hD
  refine lv_iconst (v := 0) hx hb (fk_G_init 73 _ rfl) rfl ?_
  refine lv_istore_n (lv' := [(1, .int 0), (0, .ref h0)]) hx hb (fk_G_init 74 _ rfl) rfl (lv_sub (l' := [(0, .ref h0)]) hl [1] rfl) (by decide) rfl (fun ls hl => ?_)
  refine fill_loop (o := 0) (cells := 6) (slots := 66) (nL := 2) (pc0 := 75) (pc1 := 77) (pc2 := 86) (ex := 93) (N := 4) (cst := (4)) (idx := 18) hx hb hts (by decide) hown hK (by decide) (by decide) (fk_G_init 75 _ rfl) (fun _ _ _ _ h => lv_iconst (v := nI 4) hx hb (fk_G_init 76 _ rfl) rfl h) (fk_G_init 77 _ rfl) (by decide) (fk_G_init 80 _ rfl) (fk_G_init 81 _ rfl) (fk_G_init 84 _ rfl) (fun _ _ _ _ h => lv_iconst (v := (4)) hx hb (fk_G_init 85 _ rfl) rfl h) (fk_G_init 86 _ rfl) (fk_G_init 87 _ rfl) (fk_G_init 90 _ rfl) (by decide) (ws := fun f75 => [(h0, .inr (0, [.ref q7, .ref q15, .ref q22, .int 0, .int 0, .ref q30, .ref q38, .ref q46, .int 0])), (q7, .inl (cI, 16, .inl (fun _ => 0))), (q15, .inl (cI, 16, .inl f53)), (q22, .inl (cI, 4, .inl f75)), (q30, .inl (cI, 10, .inl (fun _ => 0))), (q38, .inl (cI, 10, .inl (fun _ => 0))), (q46, .inl (cI, 10, .inl (fun _ => 0)))]) (oi := 0) (ai := 3) (k := 2) (by decide) (fun _ => rfl) (fun _ => rfl) (fun _ _ _ => rfl) rfl (inAt_g (i := 124) (by decide +kernel) rfl) (fun f75 H locs ls hP hD hS hf75 hl => ?_) 4 0 (fun _ => 0) _ _ ls (Nat.zero_add _) hP hD hS (fun i hi => absurd hi (Nat.not_lt_zero i)) hl
  have hP : va_P D vwCl [(h0, .inr (0, [.ref q7, .ref q15, .ref q22, .int 0, .int 0, .ref q30, .ref q38, .ref q46, .int 0])), (q7, .inl (cI, 16, .inl (fun _ => 0))), (q15, .inl (cI, 16, .inl f53)), (q22, .inl (cI, 4, .inl f75)), (q30, .inl (cI, 10, .inl (fun _ => 0))), (q38, .inl (cI, 10, .inl (fun _ => 0))), (q46, .inl (cI, 10, .inl (fun _ => 0)))] H := hP
  have hD : va_D A [(h0, .inr (0, [.ref q7, .ref q15, .ref q22, .int 0, .int 0, .ref q30, .ref q38, .ref q46, .int 0])), (q7, .inl (cI, 16, .inl (fun _ => 0))), (q15, .inl (cI, 16, .inl f53)), (q22, .inl (cI, 4, .inl f75)), (q30, .inl (cI, 10, .inl (fun _ => 0))), (q38, .inl (cI, 10, .inl (fun _ => 0))), (q46, .inl (cI, 10, .inl (fun _ => 0)))] := hD
  have hP9 := hP.sub (ws' := [(h0, .inr (0, [.ref q7, .ref q15, .ref q22, .int 0, .int 0, .ref q30, .ref q38, .ref q46, .int 0])), (q7, .inl (cI, 16, .inl (fun _ => 0))), (q15, .inl (cI, 16, .inl f53)), (q22, .inl (cI, 4, .inl f75)), (q30, .inl (cI, 10, .inl (fun _ => 0))), (q38, .inl (cI, 10, .inl (fun _ => 0))), (q46, .inl (cI, 10, .inl (fun _ => 0)))]) [0, 1, 2, 3, 4, 5, 6] rfl
  have hD9 := hD.sub (ws' := [(h0, .inr (0, [.ref q7, .ref q15, .ref q22, .int 0, .int 0, .ref q30, .ref q38, .ref q46, .int 0])), (q7, .inl (cI, 16, .inl (fun _ => 0))), (q15, .inl (cI, 16, .inl f53)), (q22, .inl (cI, 4, .inl f75)), (q30, .inl (cI, 10, .inl (fun _ => 0))), (q38, .inl (cI, 10, .inl (fun _ => 0))), (q46, .inl (cI, 10, .inl (fun _ => 0)))]) [0, 1, 2, 3, 4, 5, 6] (by decide) rfl
  exact W.vret hx hb hr (fun t ht hW => ⟨⟨(), rfl, trivial, q7, q15, q22, q30, q38, q46, (fun _ => 0), f53, f75, (fun _ => 0), (fun _ => 0), (fun _ => 0), by rw [ht]; exact hP9, hD9, hf53, hf75⟩, hS.F ht⟩) hS.2.2 (fk_G_init 93 _ rfl)

set_option maxHeartbeats 8000000 in
set_option maxRecDepth 100000 in
theorem c_W_init (l : Launch) (D : va_G) (cI : ClassId) (h0 : Nat) (sz : Nat) : Met l mi_W_init.2.2.2.2.1 (wsOf mi_W_init) { frames := 1, cells := 1, slots := 11, locals := 64 * 1 } (va_Pc [.ref h0] (fun U => U.heap.size = sz ∧ va_P D vwCl [(h0, .inr (5, [.null]))] U.heap ∧ va_K D vwCl (tyL cI) U ∧ (∀ w ∈ nwTbl, va_Nw w U) ∧ va_D (fun _ => True) [(h0, .inr (5, [.null]))])) (va_Qv (fun _ : Unit => True) (fun _ t => ∃ (a1 : Nat) (f1 : Nat → Int32), va_P D vwCl [(h0, .inr (5, [.ref a1])), (a1, .inl (cI, 11, .inl f1))] t.heap ∧ va_D (va_A [(h0, .inr (5, [.null]))] sz) [(h0, .inr (5, [.ref a1])), (a1, .inl (cI, 11, .inl f1))]) (va_A [(h0, .inr (5, [.null]))] sz)) 1 11 (va_A [(h0, .inr (5, [.null]))] sz) := by
  refine Met.ofW (cc := cX5_init) (maxL := 1) (ret := none) (by decide) rfl ?_
  intro p e s m args below meth c s₁ B hml hv
  obtain ⟨rfl, hsz, hP, hK, hN, hD0⟩ := hv
  have hx := B.exec
  have hb := B.bytes
  have hr := B.returns
  have hts0 := atoms_spec (ws := wsOf mi_W_init) B.pre
  have hts : ∀ w ∈ gTbl, w.before _ s = true := fun w hw => hts0 w (List.mem_cons_of_mem _ hw)
  have hown : s.vm.findClass (RXn 5) = some m.cls := findClass_of_methodNamed B.named
  have hlocks := B.notSynchronized
  have hin : meth.name = "<init>" := (name_of_methodNamed B.named B.method).1
  subst hsz
  have hD := hD0.self (sz := s.heap.size)
  generalize hAe : va_A [(h0, .inr (5, [.null]))] s.heap.size = A at hD ⊢
  have hA : ∀ q : Nat, s.heap.size ≤ q → A q := fun q h => by rw [← hAe]; exact Or.inr h
  have hS : va_S A s.heap s.heap [] := va_S.rf
  have hP : va_P D vwCl [(h0, .inr (5, [.null]))] s.heap := hP
  have hl := lv_entry ([.ref h0]) (n := 1) (Nat.le_of_ble_eq_true rfl)
  rw [lg_entry_eq]
  generalize (lg_sl ([.ref h0]) ++ List.replicate (1 - (lg_sl ([.ref h0])).length) Slot.unset).toArray = ls at hl ⊢
  have hl : lv_has ls 1 [(0, .ref h0)] := hl
  refine lv_aload_n hx hb (fk_W_init 0 _ rfl) rfl (lv_at hl 0 rfl) ?_
  refine W.objInit hx hb hown (hts _ (inAt_g (i := 159) (by decide +kernel) rfl)) (hts _ (inAt_g (i := 24) (by decide +kernel) rfl)) (hts (.code objectInit ⟨#[0xb1]⟩ 1 none) (inAt_g (i := 25) (by decide +kernel) rfl)) rfl (by rw [hml]; exact hl.1) rfl (fk_W_init 1 _ rfl) (Nat.le_of_ble_eq_true rfl) (Nat.le_of_ble_eq_true rfl) ?_
  refine W.eq (g2 := F0 m 4 ls []) rfl ?_
  refine lv_aload_n hx hb (fk_W_init 4 _ rfl) rfl (lv_at hl 0 rfl) ?_
  refine lv_bipush (v := 11) hx hb (fk_W_init 5 _ rfl) (by decide) ?_
  refine va_newa (atype := .int) (ty := .int) (a0 := (11, .inl (fun _ => 0))) (N' := 11) hx hb (hts _ (inAt_g (i := 79) (by decide +kernel) rfl)) rfl hK hP hD hS hA (fun _ => rfl) (by decide) (by decide) (Nat.le_of_ble_eq_true rfl) (Nat.le_of_ble_eq_true rfl) (Nat.le_of_ble_eq_true rfl) (fk_W_init 7 _ rfl) (fun q7 cA H hKn hP hD hS => ?_)
  have ecA : cA = cI := ra_uni (ty := .int) (Or.inl rfl) (hKn.2 1 (cA, .int) rfl).2 (hKn.2 0 (cI, .int) rfl).2
  rw [ecA] at hP hD
  clear hKn ecA
  have hP : va_P D vwCl [(h0, .inr (5, [.null])), (q7, .inl (cI, 11, .inl (fun _ => 0)))] H := hP
  have hD : va_D A [(h0, .inr (5, [.null])), (q7, .inl (cI, 11, .inl (fun _ => 0)))] := hD
  refine W.widen (k := 1) (n := 11) (Nat.le_of_ble_eq_true rfl) (Nat.le_of_ble_eq_true rfl) ?_
  refine va_putF (D := D) (ci := 5) (v := .ref q7) (ty := .array .int) (C := RXn 5) (T := TXn 5) (N := nXn 5) hx hb hts (uwsIn 5 (by decide)) (tyn 5) (tyn_ok 5 (by decide)) (nmn 5 (by decide)) hown hK hP hD hS 0 rfl (vwCl_at 5 (by decide)) 0 (by decide) (hts _ (inAt_g (i := 160) (by decide +kernel) rfl)) (fun _ h9 => h9) rfl hin rfl (tyn_ok 5 (by decide) 0 (by decide)) rfl rfl (Nat.le_of_ble_eq_true rfl) (fk_W_init 9 _ rfl) (fun H locs hP hD hS => ?_)
  have hP : va_P D vwCl [(h0, .inr (5, [.ref q7])), (q7, .inl (cI, 11, .inl (fun _ => 0)))] H := hP
  have hD : va_D A [(h0, .inr (5, [.ref q7])), (q7, .inl (cI, 11, .inl (fun _ => 0)))] := hD
  have hP9 := hP.sub (ws' := [(h0, .inr (5, [.ref q7])), (q7, .inl (cI, 11, .inl (fun _ => 0)))]) [0, 1] rfl
  have hD9 := hD.sub (ws' := [(h0, .inr (5, [.ref q7])), (q7, .inl (cI, 11, .inl (fun _ => 0)))]) [0, 1] (by decide) rfl
  exact W.vret hx hb hr (fun t ht hW => ⟨⟨(), rfl, trivial, q7, (fun _ => 0), by rw [ht]; exact hP9, hD9⟩, hS.F ht⟩) hS.2.2 (fk_W_init 12 _ rfl)

set_option maxHeartbeats 8000000 in
set_option maxRecDepth 100000 in
theorem c_E_init (l : Launch) (D : va_G) (cI : ClassId) (h0 : Nat) (sz : Nat) : Met l mi_E_init.2.2.2.2.1 (wsOf mi_E_init) { frames := 1, cells := 0, slots := 0, locals := 64 * 1 } (va_Pc [.ref h0] (fun U => U.heap.size = sz ∧ va_P D vwCl [(h0, .inr (1, [.int 0, .int 0, .int 0, .int 0]))] U.heap ∧ va_K D vwCl (tyL cI) U ∧ (∀ w ∈ nwTbl, va_Nw w U) ∧ va_D (fun _ => True) [(h0, .inr (1, [.int 0, .int 0, .int 0, .int 0]))])) (va_Qv (fun _ : Unit => True) (fun _ t => va_P D vwCl [(h0, .inr (1, [.int 0, .int 0, .int 0, .int 0]))] t.heap ∧ va_D (va_A [(h0, .inr (1, [.int 0, .int 0, .int 0, .int 0]))] sz) [(h0, .inr (1, [.int 0, .int 0, .int 0, .int 0]))]) (va_A [(h0, .inr (1, [.int 0, .int 0, .int 0, .int 0]))] sz)) 0 0 (va_A [(h0, .inr (1, [.int 0, .int 0, .int 0, .int 0]))] sz) := by
  refine Met.ofW (cc := cX1_init) (maxL := 1) (ret := none) (by decide) rfl ?_
  intro p e s m args below meth c s₁ B hml hv
  obtain ⟨rfl, hsz, hP, hK, hN, hD0⟩ := hv
  have hx := B.exec
  have hb := B.bytes
  have hr := B.returns
  have hts0 := atoms_spec (ws := wsOf mi_E_init) B.pre
  have hts : ∀ w ∈ gTbl, w.before _ s = true := fun w hw => hts0 w (List.mem_cons_of_mem _ hw)
  have hown : s.vm.findClass (RXn 1) = some m.cls := findClass_of_methodNamed B.named
  have hlocks := B.notSynchronized
  have hin : meth.name = "<init>" := (name_of_methodNamed B.named B.method).1
  subst hsz
  have hD := hD0.self (sz := s.heap.size)
  generalize hAe : va_A [(h0, .inr (1, [.int 0, .int 0, .int 0, .int 0]))] s.heap.size = A at hD ⊢
  have hA : ∀ q : Nat, s.heap.size ≤ q → A q := fun q h => by rw [← hAe]; exact Or.inr h
  have hS : va_S A s.heap s.heap [] := va_S.rf
  have hP : va_P D vwCl [(h0, .inr (1, [.int 0, .int 0, .int 0, .int 0]))] s.heap := hP
  have hl := lv_entry ([.ref h0]) (n := 1) (Nat.le_of_ble_eq_true rfl)
  rw [lg_entry_eq]
  generalize (lg_sl ([.ref h0]) ++ List.replicate (1 - (lg_sl ([.ref h0])).length) Slot.unset).toArray = ls at hl ⊢
  have hl : lv_has ls 1 [(0, .ref h0)] := hl
  refine lv_aload_n hx hb (fk_E_init 0 _ rfl) rfl (lv_at hl 0 rfl) ?_
  refine W.objInit hx hb hown (hts _ (inAt_g (i := 170) (by decide +kernel) rfl)) (hts _ (inAt_g (i := 24) (by decide +kernel) rfl)) (hts (.code objectInit ⟨#[0xb1]⟩ 1 none) (inAt_g (i := 25) (by decide +kernel) rfl)) rfl (by rw [hml]; exact hl.1) rfl (fk_E_init 1 _ rfl) (Nat.le_of_ble_eq_true rfl) (Nat.le_of_ble_eq_true rfl) ?_
  refine W.eq (g2 := F0 m 4 ls []) rfl ?_
  have hP9 := hP.sub (ws' := [(h0, .inr (1, [.int 0, .int 0, .int 0, .int 0]))]) [0] rfl
  have hD9 := hD.sub (ws' := [(h0, .inr (1, [.int 0, .int 0, .int 0, .int 0]))]) [0] (by decide) rfl
  exact W.vret hx hb hr (fun t ht hW => ⟨⟨(), rfl, trivial, by rw [ht]; exact hP9, hD9⟩, hS.F ht⟩) hS.2.2 (fk_E_init 4 _ rfl)

set_option maxHeartbeats 8000000 in
set_option maxRecDepth 100000 in
theorem c_P_init (l : Launch) (D : va_G) (cI : ClassId) (h0 : Nat) (sz : Nat) : Met l mi_P_init.2.2.2.2.1 (wsOf mi_P_init) { frames := 1, cells := 3, slots := 36, locals := 64 * 1 } (va_Pc [.ref h0] (fun U => U.heap.size = sz ∧ va_P D vwCl [(h0, .inr (2, [.int 0, .null, .null, .null, .int 0, .int 0]))] U.heap ∧ va_K D vwCl (tyL cI) U ∧ (∀ w ∈ nwTbl, va_Nw w U) ∧ va_D (fun _ => True) [(h0, .inr (2, [.int 0, .null, .null, .null, .int 0, .int 0]))])) (va_Qv (fun _ : Unit => True) (fun _ t => ∃ (a1 : Nat) (a2 : Nat) (a3 : Nat) (f1 : Nat → Int32) (f2 : Nat → Int32) (f3 : Nat → Int32), va_P D vwCl [(h0, .inr (2, [.int (-9), .ref a1, .ref a2, .ref a3, .int 0, .int 0])), (a1, .inl (cI, 16, .inl f1)), (a2, .inl (cI, 16, .inl f2)), (a3, .inl (cI, 4, .inl f3))] t.heap ∧ va_D (va_A [(h0, .inr (2, [.int 0, .null, .null, .null, .int 0, .int 0]))] sz) [(h0, .inr (2, [.int (-9), .ref a1, .ref a2, .ref a3, .int 0, .int 0])), (a1, .inl (cI, 16, .inl f1)), (a2, .inl (cI, 16, .inl f2)), (a3, .inl (cI, 4, .inl f3))]) (va_A [(h0, .inr (2, [.int 0, .null, .null, .null, .int 0, .int 0]))] sz)) 3 36 (va_A [(h0, .inr (2, [.int 0, .null, .null, .null, .int 0, .int 0]))] sz) := by
  refine Met.ofW (cc := cX2_init) (maxL := 1) (ret := none) (by decide) rfl ?_
  intro p e s m args below meth c s₁ B hml hv
  obtain ⟨rfl, hsz, hP, hK, hN, hD0⟩ := hv
  have hx := B.exec
  have hb := B.bytes
  have hr := B.returns
  have hts0 := atoms_spec (ws := wsOf mi_P_init) B.pre
  have hts : ∀ w ∈ gTbl, w.before _ s = true := fun w hw => hts0 w (List.mem_cons_of_mem _ hw)
  have hown : s.vm.findClass (RXn 2) = some m.cls := findClass_of_methodNamed B.named
  have hlocks := B.notSynchronized
  have hin : meth.name = "<init>" := (name_of_methodNamed B.named B.method).1
  subst hsz
  have hD := hD0.self (sz := s.heap.size)
  generalize hAe : va_A [(h0, .inr (2, [.int 0, .null, .null, .null, .int 0, .int 0]))] s.heap.size = A at hD ⊢
  have hA : ∀ q : Nat, s.heap.size ≤ q → A q := fun q h => by rw [← hAe]; exact Or.inr h
  have hS : va_S A s.heap s.heap [] := va_S.rf
  have hP : va_P D vwCl [(h0, .inr (2, [.int 0, .null, .null, .null, .int 0, .int 0]))] s.heap := hP
  have hl := lv_entry ([.ref h0]) (n := 1) (Nat.le_of_ble_eq_true rfl)
  rw [lg_entry_eq]
  generalize (lg_sl ([.ref h0]) ++ List.replicate (1 - (lg_sl ([.ref h0])).length) Slot.unset).toArray = ls at hl ⊢
  have hl : lv_has ls 1 [(0, .ref h0)] := hl
  refine lv_aload_n hx hb (fk_P_init 0 _ rfl) rfl (lv_at hl 0 rfl) ?_
  refine W.objInit hx hb hown (hts _ (inAt_g (i := 192) (by decide +kernel) rfl)) (hts _ (inAt_g (i := 24) (by decide +kernel) rfl)) (hts (.code objectInit ⟨#[0xb1]⟩ 1 none) (inAt_g (i := 25) (by decide +kernel) rfl)) rfl (by rw [hml]; exact hl.1) rfl (fk_P_init 1 _ rfl) (Nat.le_of_ble_eq_true rfl) (Nat.le_of_ble_eq_true rfl) ?_
  refine W.eq (g2 := F0 m 4 ls []) rfl ?_
  refine lv_aload_n hx hb (fk_P_init 4 _ rfl) rfl (lv_at hl 0 rfl) ?_
  refine lv_bipush (v := (-9)) hx hb (fk_P_init 5 _ rfl) (by decide) ?_
  refine va_put (D := D) (ci := 2) (v := .int (-9)) (ty := .int) (C := RXn 2) (T := TXn 2) (N := nXn 2) hx hb hts (uwsIn 2 (by decide)) (tyn 2) (tyn_ok 2 (by decide)) (nmn 2 (by decide)) hown hK hP hD hS 0 rfl (vwCl_at 2 (by decide)) 0 (by decide) (hts _ (inAt_g (i := 193) (by decide +kernel) rfl)) (fun _ h9 => h9) rfl (tyn_ok 2 (by decide) 0 (by decide)) rfl rfl (Nat.le_of_ble_eq_true rfl) (fk_P_init 7 _ rfl) (fun H locs hP hD hS => ?_)
  have hP : va_P D vwCl [(h0, .inr (2, [.int (-9), .null, .null, .null, .int 0, .int 0]))] H := hP
  have hD : va_D A [(h0, .inr (2, [.int (-9), .null, .null, .null, .int 0, .int 0]))] := hD
  refine lv_aload_n hx hb (fk_P_init 10 _ rfl) rfl (lv_at hl 0 rfl) ?_
  refine lv_bipush (v := 16) hx hb (fk_P_init 11 _ rfl) (by decide) ?_
  refine va_newa (atype := .int) (ty := .int) (a0 := (16, .inl (fun _ => 0))) (N' := 16) hx hb (hts _ (inAt_g (i := 79) (by decide +kernel) rfl)) rfl hK hP hD hS hA (fun _ => rfl) (by decide) (by decide) (Nat.le_of_ble_eq_true rfl) (Nat.le_of_ble_eq_true rfl) (Nat.le_of_ble_eq_true rfl) (fk_P_init 13 _ rfl) (fun q13 cA H hKn hP hD hS => ?_)
  have ecA : cA = cI := ra_uni (ty := .int) (Or.inl rfl) (hKn.2 1 (cA, .int) rfl).2 (hKn.2 0 (cI, .int) rfl).2
  rw [ecA] at hP hD
  clear hKn ecA
  have hP : va_P D vwCl [(h0, .inr (2, [.int (-9), .null, .null, .null, .int 0, .int 0])), (q13, .inl (cI, 16, .inl (fun _ => 0)))] H := hP
  have hD : va_D A [(h0, .inr (2, [.int (-9), .null, .null, .null, .int 0, .int 0])), (q13, .inl (cI, 16, .inl (fun _ => 0)))] := hD
  refine W.widen (k := 1) (n := 16) (Nat.le_of_ble_eq_true rfl) (Nat.le_of_ble_eq_true rfl) ?_
  refine va_putF (D := D) (ci := 2) (v := .ref q13) (ty := .array .int) (C := RXn 2) (T := TXn 2) (N := nXn 2) hx hb hts (uwsIn 2 (by decide)) (tyn 2) (tyn_ok 2 (by decide)) (nmn 2 (by decide)) hown hK hP hD hS 0 rfl (vwCl_at 2 (by decide)) 1 (by decide) (hts _ (inAt_g (i := 195) (by decide +kernel) rfl)) (fun _ h9 => h9) rfl hin rfl (tyn_ok 2 (by decide) 1 (by decide)) rfl rfl (Nat.le_of_ble_eq_true rfl) (fk_P_init 15 _ rfl) (fun H locs hP hD hS => ?_)
  have hP : va_P D vwCl [(h0, .inr (2, [.int (-9), .ref q13, .null, .null, .int 0, .int 0])), (q13, .inl (cI, 16, .inl (fun _ => 0)))] H := hP
  have hD : va_D A [(h0, .inr (2, [.int (-9), .ref q13, .null, .null, .int 0, .int 0])), (q13, .inl (cI, 16, .inl (fun _ => 0)))] := hD
  refine lv_aload_n hx hb (fk_P_init 18 _ rfl) rfl (lv_at hl 0 rfl) ?_
  refine lv_bipush (v := 16) hx hb (fk_P_init 19 _ rfl) (by decide) ?_
  refine va_newa (atype := .int) (ty := .int) (a0 := (16, .inl (fun _ => 0))) (N' := 16) hx hb (hts _ (inAt_g (i := 79) (by decide +kernel) rfl)) rfl hK hP hD hS hA (fun _ => rfl) (by decide) (by decide) (Nat.le_of_ble_eq_true rfl) (Nat.le_of_ble_eq_true rfl) (Nat.le_of_ble_eq_true rfl) (fk_P_init 21 _ rfl) (fun q21 cA H hKn hP hD hS => ?_)
  have ecA : cA = cI := ra_uni (ty := .int) (Or.inl rfl) (hKn.2 1 (cA, .int) rfl).2 (hKn.2 0 (cI, .int) rfl).2
  rw [ecA] at hP hD
  clear hKn ecA
  have hP : va_P D vwCl [(h0, .inr (2, [.int (-9), .ref q13, .null, .null, .int 0, .int 0])), (q13, .inl (cI, 16, .inl (fun _ => 0))), (q21, .inl (cI, 16, .inl (fun _ => 0)))] H := hP
  have hD : va_D A [(h0, .inr (2, [.int (-9), .ref q13, .null, .null, .int 0, .int 0])), (q13, .inl (cI, 16, .inl (fun _ => 0))), (q21, .inl (cI, 16, .inl (fun _ => 0)))] := hD
  refine W.widen (k := 2) (n := 32) (Nat.le_of_ble_eq_true rfl) (Nat.le_of_ble_eq_true rfl) ?_
  refine va_putF (D := D) (ci := 2) (v := .ref q21) (ty := .array .int) (C := RXn 2) (T := TXn 2) (N := nXn 2) hx hb hts (uwsIn 2 (by decide)) (tyn 2) (tyn_ok 2 (by decide)) (nmn 2 (by decide)) hown hK hP hD hS 0 rfl (vwCl_at 2 (by decide)) 2 (by decide) (hts _ (inAt_g (i := 197) (by decide +kernel) rfl)) (fun _ h9 => h9) rfl hin rfl (tyn_ok 2 (by decide) 2 (by decide)) rfl rfl (Nat.le_of_ble_eq_true rfl) (fk_P_init 23 _ rfl) (fun H locs hP hD hS => ?_)
  have hP : va_P D vwCl [(h0, .inr (2, [.int (-9), .ref q13, .ref q21, .null, .int 0, .int 0])), (q13, .inl (cI, 16, .inl (fun _ => 0))), (q21, .inl (cI, 16, .inl (fun _ => 0)))] H := hP
  have hD : va_D A [(h0, .inr (2, [.int (-9), .ref q13, .ref q21, .null, .int 0, .int 0])), (q13, .inl (cI, 16, .inl (fun _ => 0))), (q21, .inl (cI, 16, .inl (fun _ => 0)))] := hD
  refine lv_aload_n hx hb (fk_P_init 26 _ rfl) rfl (lv_at hl 0 rfl) ?_
  refine lv_iconst (v := 4) hx hb (fk_P_init 27 _ rfl) rfl ?_
  refine va_newa (atype := .int) (ty := .int) (a0 := (4, .inl (fun _ => 0))) (N' := 4) hx hb (hts _ (inAt_g (i := 79) (by decide +kernel) rfl)) rfl hK hP hD hS hA (fun _ => rfl) (by decide) (by decide) (Nat.le_of_ble_eq_true rfl) (Nat.le_of_ble_eq_true rfl) (Nat.le_of_ble_eq_true rfl) (fk_P_init 28 _ rfl) (fun q28 cA H hKn hP hD hS => ?_)
  have ecA : cA = cI := ra_uni (ty := .int) (Or.inl rfl) (hKn.2 1 (cA, .int) rfl).2 (hKn.2 0 (cI, .int) rfl).2
  rw [ecA] at hP hD
  clear hKn ecA
  have hP : va_P D vwCl [(h0, .inr (2, [.int (-9), .ref q13, .ref q21, .null, .int 0, .int 0])), (q13, .inl (cI, 16, .inl (fun _ => 0))), (q21, .inl (cI, 16, .inl (fun _ => 0))), (q28, .inl (cI, 4, .inl (fun _ => 0)))] H := hP
  have hD : va_D A [(h0, .inr (2, [.int (-9), .ref q13, .ref q21, .null, .int 0, .int 0])), (q13, .inl (cI, 16, .inl (fun _ => 0))), (q21, .inl (cI, 16, .inl (fun _ => 0))), (q28, .inl (cI, 4, .inl (fun _ => 0)))] := hD
  refine W.widen (k := 3) (n := 36) (Nat.le_of_ble_eq_true rfl) (Nat.le_of_ble_eq_true rfl) ?_
  refine va_putF (D := D) (ci := 2) (v := .ref q28) (ty := .array .int) (C := RXn 2) (T := TXn 2) (N := nXn 2) hx hb hts (uwsIn 2 (by decide)) (tyn 2) (tyn_ok 2 (by decide)) (nmn 2 (by decide)) hown hK hP hD hS 0 rfl (vwCl_at 2 (by decide)) 3 (by decide) (hts _ (inAt_g (i := 198) (by decide +kernel) rfl)) (fun _ h9 => h9) rfl hin rfl (tyn_ok 2 (by decide) 3 (by decide)) rfl rfl (Nat.le_of_ble_eq_true rfl) (fk_P_init 30 _ rfl) (fun H locs hP hD hS => ?_)
  have hP : va_P D vwCl [(h0, .inr (2, [.int (-9), .ref q13, .ref q21, .ref q28, .int 0, .int 0])), (q13, .inl (cI, 16, .inl (fun _ => 0))), (q21, .inl (cI, 16, .inl (fun _ => 0))), (q28, .inl (cI, 4, .inl (fun _ => 0)))] H := hP
  have hD : va_D A [(h0, .inr (2, [.int (-9), .ref q13, .ref q21, .ref q28, .int 0, .int 0])), (q13, .inl (cI, 16, .inl (fun _ => 0))), (q21, .inl (cI, 16, .inl (fun _ => 0))), (q28, .inl (cI, 4, .inl (fun _ => 0)))] := hD
  have hP9 := hP.sub (ws' := [(h0, .inr (2, [.int (-9), .ref q13, .ref q21, .ref q28, .int 0, .int 0])), (q13, .inl (cI, 16, .inl (fun _ => 0))), (q21, .inl (cI, 16, .inl (fun _ => 0))), (q28, .inl (cI, 4, .inl (fun _ => 0)))]) [0, 1, 2, 3] rfl
  have hD9 := hD.sub (ws' := [(h0, .inr (2, [.int (-9), .ref q13, .ref q21, .ref q28, .int 0, .int 0])), (q13, .inl (cI, 16, .inl (fun _ => 0))), (q21, .inl (cI, 16, .inl (fun _ => 0))), (q28, .inl (cI, 4, .inl (fun _ => 0)))]) [0, 1, 2, 3] (by decide) rfl
  exact W.vret hx hb hr (fun t ht hW => ⟨⟨(), rfl, trivial, q13, q21, q28, (fun _ => 0), (fun _ => 0), (fun _ => 0), by rw [ht]; exact hP9, hD9⟩, hS.F ht⟩) hS.2.2 (fk_P_init 33 _ rfl)

set_option maxHeartbeats 8000000 in
set_option maxRecDepth 100000 in
theorem c_R_init (l : Launch) (D : va_G) (cI : ClassId) (h0 : Nat) (sz : Nat) : Met l mi_R_init.2.2.2.2.1 (wsOf mi_R_init) { frames := 2, cells := 4, slots := 177, locals := 64 * 2 } (va_Pc [.ref h0] (fun U => U.heap.size = sz ∧ va_P D vwCl [(h0, .inr (4, [.null, .int 0, .null, .int 0, .int 0, .int 0, .int 0, .int 0, .int 0, .int 0]))] U.heap ∧ va_K D vwCl (tyL cI) U ∧ (∀ w ∈ nwTbl, va_Nw w U) ∧ va_D (fun _ => True) [(h0, .inr (4, [.null, .int 0, .null, .int 0, .int 0, .int 0, .int 0, .int 0, .int 0, .int 0]))])) (va_Qv (fun _ : Unit => True) (fun _ t => ∃ (a1 : Nat) (a2 : Nat) (a3 : Nat) (a4 : Nat) (f1 : Nat → Int32) (f3 : Nat → Int32) (f4 : Nat → Int32), va_P D vwCl [(h0, .inr (4, [.ref a1, .int 0, .ref a2, .int 0, .int 0, .int 0, .int 0, .int 0, .int 0, .int 0])), (a1, .inl (cI, 150, .inl f1)), (a2, .inr (3, [.int 0, .int 0, .int 0, .int 0, .int 0, .ref a3, .ref a4])), (a3, .inl (cI, 16, .inl f3)), (a4, .inl (cI, 4, .inl f4))] t.heap ∧ va_D (va_A [(h0, .inr (4, [.null, .int 0, .null, .int 0, .int 0, .int 0, .int 0, .int 0, .int 0, .int 0]))] sz) [(h0, .inr (4, [.ref a1, .int 0, .ref a2, .int 0, .int 0, .int 0, .int 0, .int 0, .int 0, .int 0])), (a1, .inl (cI, 150, .inl f1)), (a2, .inr (3, [.int 0, .int 0, .int 0, .int 0, .int 0, .ref a3, .ref a4])), (a3, .inl (cI, 16, .inl f3)), (a4, .inl (cI, 4, .inl f4))]) (va_A [(h0, .inr (4, [.null, .int 0, .null, .int 0, .int 0, .int 0, .int 0, .int 0, .int 0, .int 0]))] sz)) 4 177 (va_A [(h0, .inr (4, [.null, .int 0, .null, .int 0, .int 0, .int 0, .int 0, .int 0, .int 0, .int 0]))] sz) := by
  refine Met.ofW (cc := cX4_init) (maxL := 1) (ret := none) (by decide) rfl ?_
  intro p e s m args below meth c s₁ B hml hv
  obtain ⟨rfl, hsz, hP, hK, hN, hD0⟩ := hv
  have hx := B.exec
  have hb := B.bytes
  have hr := B.returns
  have hts0 := atoms_spec (ws := wsOf mi_R_init) B.pre
  have hts : ∀ w ∈ gTbl, w.before _ s = true := fun w hw => hts0 w (List.mem_cons_of_mem _ hw)
  have hown : s.vm.findClass (RXn 4) = some m.cls := findClass_of_methodNamed B.named
  have hlocks := B.notSynchronized
  have hin : meth.name = "<init>" := (name_of_methodNamed B.named B.method).1
  subst hsz
  have hD := hD0.self (sz := s.heap.size)
  generalize hAe : va_A [(h0, .inr (4, [.null, .int 0, .null, .int 0, .int 0, .int 0, .int 0, .int 0, .int 0, .int 0]))] s.heap.size = A at hD ⊢
  have hA : ∀ q : Nat, s.heap.size ≤ q → A q := fun q h => by rw [← hAe]; exact Or.inr h
  have hS : va_S A s.heap s.heap [] := va_S.rf
  have hP : va_P D vwCl [(h0, .inr (4, [.null, .int 0, .null, .int 0, .int 0, .int 0, .int 0, .int 0, .int 0, .int 0]))] s.heap := hP
  have hl := lv_entry ([.ref h0]) (n := 1) (Nat.le_of_ble_eq_true rfl)
  rw [lg_entry_eq]
  generalize (lg_sl ([.ref h0]) ++ List.replicate (1 - (lg_sl ([.ref h0])).length) Slot.unset).toArray = ls at hl ⊢
  have hl : lv_has ls 1 [(0, .ref h0)] := hl
  refine lv_aload_n hx hb (fk_R_init 0 _ rfl) rfl (lv_at hl 0 rfl) ?_
  refine W.objInit hx hb hown (hts _ (inAt_g (i := 31) (by decide +kernel) rfl)) (hts _ (inAt_g (i := 24) (by decide +kernel) rfl)) (hts (.code objectInit ⟨#[0xb1]⟩ 1 none) (inAt_g (i := 25) (by decide +kernel) rfl)) rfl (by rw [hml]; exact hl.1) rfl (fk_R_init 1 _ rfl) (Nat.le_of_ble_eq_true rfl) (Nat.le_of_ble_eq_true rfl) ?_
  refine W.eq (g2 := F0 m 4 ls []) rfl ?_
  refine lv_aload_n hx hb (fk_R_init 4 _ rfl) rfl (lv_at hl 0 rfl) ?_
  refine lv_sipush (v := 150) hx hb (fk_R_init 5 _ rfl) (by decide) ?_
  refine va_newa (atype := .int) (ty := .int) (a0 := (150, .inl (fun _ => 0))) (N' := 150) hx hb (hts _ (inAt_g (i := 79) (by decide +kernel) rfl)) rfl hK hP hD hS hA (fun _ => rfl) (by decide) (by decide) (Nat.le_of_ble_eq_true rfl) (Nat.le_of_ble_eq_true rfl) (Nat.le_of_ble_eq_true rfl) (fk_R_init 8 _ rfl) (fun q8 cA H hKn hP hD hS => ?_)
  have ecA : cA = cI := ra_uni (ty := .int) (Or.inl rfl) (hKn.2 1 (cA, .int) rfl).2 (hKn.2 0 (cI, .int) rfl).2
  rw [ecA] at hP hD
  clear hKn ecA
  have hP : va_P D vwCl [(h0, .inr (4, [.null, .int 0, .null, .int 0, .int 0, .int 0, .int 0, .int 0, .int 0, .int 0])), (q8, .inl (cI, 150, .inl (fun _ => 0)))] H := hP
  have hD : va_D A [(h0, .inr (4, [.null, .int 0, .null, .int 0, .int 0, .int 0, .int 0, .int 0, .int 0, .int 0])), (q8, .inl (cI, 150, .inl (fun _ => 0)))] := hD
  refine W.widen (k := 1) (n := 150) (Nat.le_of_ble_eq_true rfl) (Nat.le_of_ble_eq_true rfl) ?_
  refine va_putF (D := D) (ci := 4) (v := .ref q8) (ty := .array .int) (C := RXn 4) (T := TXn 4) (N := nXn 4) hx hb hts (uwsIn 4 (by decide)) (tyn 4) (tyn_ok 4 (by decide)) (nmn 4 (by decide)) hown hK hP hD hS 0 rfl (vwCl_at 4 (by decide)) 0 (by decide) (hts _ (inAt_g (i := 80) (by decide +kernel) rfl)) (fun _ h9 => h9) rfl hin rfl (tyn_ok 4 (by decide) 0 (by decide)) rfl rfl (Nat.le_of_ble_eq_true rfl) (fk_R_init 10 _ rfl) (fun H locs hP hD hS => ?_)
  have hP : va_P D vwCl [(h0, .inr (4, [.ref q8, .int 0, .null, .int 0, .int 0, .int 0, .int 0, .int 0, .int 0, .int 0])), (q8, .inl (cI, 150, .inl (fun _ => 0)))] H := hP
  have hD : va_D A [(h0, .inr (4, [.ref q8, .int 0, .null, .int 0, .int 0, .int 0, .int 0, .int 0, .int 0, .int 0])), (q8, .inl (cI, 150, .inl (fun _ => 0)))] := hD
  refine lv_aload_n hx hb (fk_R_init 13 _ rfl) rfl (lv_at hl 0 rfl) ?_
  refine va_new (ci := 3) (fs := [.int 0, .int 0, .int 0, .int 0, .int 0, .null, .null]) (C := RXn 3) (T := TXn 3) (N := nXn 3) hx hb hts (uwsIn 3 (by decide)) (tyn 3) (tyn_ok 3 (by decide)) hown (hts _ (inAt_g (i := 32) (by decide +kernel) rfl)) (hts _ (inAt_g (i := 33) (by decide +kernel) rfl)) (hts _ (inAt_g (i := 11) (by decide +kernel) rfl)) hK hP hD hS hA (vwCl_at 3 (by decide)) (by decide) (Nat.le_of_ble_eq_true rfl) (Nat.le_of_ble_eq_true rfl) (fk_R_init 14 _ rfl) (fun q14 H hP hD hS => ?_)
  have hP : va_P D vwCl [(h0, .inr (4, [.ref q8, .int 0, .null, .int 0, .int 0, .int 0, .int 0, .int 0, .int 0, .int 0])), (q8, .inl (cI, 150, .inl (fun _ => 0))), (q14, .inr (3, [.int 0, .int 0, .int 0, .int 0, .int 0, .null, .null]))] H := hP
  have hD : va_D A [(h0, .inr (4, [.ref q8, .int 0, .null, .int 0, .int 0, .int 0, .int 0, .int 0, .int 0, .int 0])), (q8, .inl (cI, 150, .inl (fun _ => 0))), (q14, .inr (3, [.int 0, .int 0, .int 0, .int 0, .int 0, .null, .null]))] := hD
  refine W.widen (k := 2) (n := 157) (Nat.le_of_ble_eq_true rfl) (Nat.le_of_ble_eq_true rfl) ?_
  refine lv_dup hx hb (fk_R_init 17 _ rfl) rfl ?_
  have hPc := hP.sub (ws' := [(q14, .inr (3, [.int 0, .int 0, .int 0, .int 0, .int 0, .null, .null]))]) [2] rfl
  have hDc := hD.sub (ws' := [(q14, .inr (3, [.int 0, .int 0, .int 0, .int 0, .int 0, .null, .null]))]) [2] (by decide) rfl
  have hFc := va_free (wc := [(q14, .inr (3, [.int 0, .int 0, .int 0, .int 0, .int 0, .null, .null]))]) hD hS hA [2] rfl
  refine va_callv (va_runI (As := []) (rest := [.ref q14, .ref h0]) ⟨hx, hb, hml, hown, hts⟩ (c_L_init l D cI q14 H.size) (cwI 0 hts (goodws ck_L_init) rfl rfl rfl (hts _ ck_L_init.2.1) (hts _ (inAt_g (i := 34) (by decide +kernel) rfl)) (hts _ ii_L_init) rfl ck_L_init.2.2.2.2.1 ⟨Nat.le_of_ble_eq_true rfl, Nat.le_of_ble_eq_true rfl⟩) ⟨fun a U g mk q => by obtain ⟨q0, q1, qP, qK, qN, qD⟩ := q; exact ⟨q0, q1, qP, va_K.moved (u := U) (U := U.calling g mk a) (Vm.Alike.refl U.vm) qK, nw_blind qN, qD⟩, fun U hU hW => ⟨rfl, by rw [hU], by rw [hU]; exact hPc, va_K.moved hW.alike hK, nw_warm hW hN, hDc.weaken (fun _ _ _ _ => trivial)⟩⟩ rfl rfl hl.1 rfl (lv_room (Nat.le_of_ble_eq_true rfl)) (fk_R_init 18 _ rfl) ⟨Nat.le_of_ble_eq_true rfl, Nat.le_of_ble_eq_true rfl⟩) hS (fun q _ h => hFc q h) hFc (fun u t H1 locs ht hvm hw hB hz1 hk1 hS => ?_)
  obtain ⟨a1_18, a2_18, f1_18, f2_18, hP1, hD1⟩ := hB
  rw [ht] at hP1
  obtain ⟨hP, hD⟩ := va_join (wr := [(h0, .inr (4, [.ref q8, .int 0, .null, .int 0, .int 0, .int 0, .int 0, .int 0, .int 0, .int 0])), (q8, .inl (cI, 150, .inl (fun _ => 0)))]) (w1 := [(q14, .inr (3, [.int 0, .int 0, .int 0, .int 0, .int 0, .ref a1_18, .ref a2_18])), (a1_18, .inl (cI, 16, .inl f1_18)), (a2_18, .inl (cI, 4, .inl f2_18))]) hP hD [2] [0, 1] rfl rfl (by decide) (by decide) hk1 hFc hP1 hD1
  generalize H1 = H at hP hS ⊢
  have hP : va_P D vwCl [(h0, .inr (4, [.ref q8, .int 0, .null, .int 0, .int 0, .int 0, .int 0, .int 0, .int 0, .int 0])), (q8, .inl (cI, 150, .inl (fun _ => 0))), (q14, .inr (3, [.int 0, .int 0, .int 0, .int 0, .int 0, .ref a1_18, .ref a2_18])), (a1_18, .inl (cI, 16, .inl f1_18)), (a2_18, .inl (cI, 4, .inl f2_18))] H := hP
  have hD : va_D A [(h0, .inr (4, [.ref q8, .int 0, .null, .int 0, .int 0, .int 0, .int 0, .int 0, .int 0, .int 0])), (q8, .inl (cI, 150, .inl (fun _ => 0))), (q14, .inr (3, [.int 0, .int 0, .int 0, .int 0, .int 0, .ref a1_18, .ref a2_18])), (a1_18, .inl (cI, 16, .inl f1_18)), (a2_18, .inl (cI, 4, .inl f2_18))] := hD
  clear hPc hDc hFc hP1 hD1 hk1 hz1 ht hvm hw
  refine W.widen (k := 4) (n := 177) (Nat.le_of_ble_eq_true rfl) (Nat.le_of_ble_eq_true rfl) ?_
  refine va_putF (D := D) (ci := 4) (v := .ref q14) (ty := .object "SlabYard$Plot") (C := RXn 4) (T := TXn 4) (N := nXn 4) hx hb hts (uwsIn 4 (by decide)) (tyn 4) (tyn_ok 4 (by decide)) (nmn 4 (by decide)) hown hK hP hD hS 0 rfl (vwCl_at 4 (by decide)) 2 (by decide) (hts _ (inAt_g (i := 83) (by decide +kernel) rfl)) (fun _ h9 => h9) rfl hin rfl (tyn_ok 4 (by decide) 2 (by decide)) rfl rfl (Nat.le_of_ble_eq_true rfl) (fk_R_init 21 _ rfl) (fun H locs hP hD hS => ?_)
  have hP : va_P D vwCl [(h0, .inr (4, [.ref q8, .int 0, .ref q14, .int 0, .int 0, .int 0, .int 0, .int 0, .int 0, .int 0])), (q8, .inl (cI, 150, .inl (fun _ => 0))), (q14, .inr (3, [.int 0, .int 0, .int 0, .int 0, .int 0, .ref a1_18, .ref a2_18])), (a1_18, .inl (cI, 16, .inl f1_18)), (a2_18, .inl (cI, 4, .inl f2_18))] H := hP
  have hD : va_D A [(h0, .inr (4, [.ref q8, .int 0, .ref q14, .int 0, .int 0, .int 0, .int 0, .int 0, .int 0, .int 0])), (q8, .inl (cI, 150, .inl (fun _ => 0))), (q14, .inr (3, [.int 0, .int 0, .int 0, .int 0, .int 0, .ref a1_18, .ref a2_18])), (a1_18, .inl (cI, 16, .inl f1_18)), (a2_18, .inl (cI, 4, .inl f2_18))] := hD
  have hP9 := hP.sub (ws' := [(h0, .inr (4, [.ref q8, .int 0, .ref q14, .int 0, .int 0, .int 0, .int 0, .int 0, .int 0, .int 0])), (q8, .inl (cI, 150, .inl (fun _ => 0))), (q14, .inr (3, [.int 0, .int 0, .int 0, .int 0, .int 0, .ref a1_18, .ref a2_18])), (a1_18, .inl (cI, 16, .inl f1_18)), (a2_18, .inl (cI, 4, .inl f2_18))]) [0, 1, 2, 3, 4] rfl
  have hD9 := hD.sub (ws' := [(h0, .inr (4, [.ref q8, .int 0, .ref q14, .int 0, .int 0, .int 0, .int 0, .int 0, .int 0, .int 0])), (q8, .inl (cI, 150, .inl (fun _ => 0))), (q14, .inr (3, [.int 0, .int 0, .int 0, .int 0, .int 0, .ref a1_18, .ref a2_18])), (a1_18, .inl (cI, 16, .inl f1_18)), (a2_18, .inl (cI, 4, .inl f2_18))]) [0, 1, 2, 3, 4] (by decide) rfl
  exact W.vret hx hb hr (fun t ht hW => ⟨⟨(), rfl, trivial, q8, q14, a1_18, a2_18, (fun _ => 0), f1_18, f2_18, by rw [ht]; exact hP9, hD9⟩, hS.F ht⟩) hS.2.2 (fk_R_init 24 _ rfl)
