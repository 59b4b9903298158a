/-! ===== the machine's state stands for the abstract one ===== -/
def nwTbl : List Cond := lw_tbl.filter (fun w => match w with | .fieldLinkNest .. => true | .methodLinkNest .. => true | _ => false)
/-- what is known of the tables and the statics at a state -/
def WF (G : Gx) (U : State) : Prop := va_K G.1 vwCl [(G.2.2.1 20, .int)] U ∧ (∀ w ∈ nwTbl, va_Nw w U) ∧
  ∀ j, j < 4 → va_Z "SlabYard" (stN j) "[I" (.ref (G.2.1 (100 + j))) G.2.2.2 U U.heap ∧ va_T .int (G.2.1 (100 + j)) 4 (fun k => .int (stV j k)) G.2.2.2 U U.heap
/-- the script: a row that nobody writes -/
def WS (G : Gx) (M : Mem) (U : State) : Prop := ∃ N : Nat, va_T .int (G.2.1 104) N (fun k => .int (M.1 104 k)) G.2.2.2 U U.heap ∧ Int32.ofNat N = M.1 105 0 ∧ N < 2 ^ 31
def Rp (G : Gx) (s : State) (M : Mem) (H : Heap) (locs : List Loc) : Prop := va_P G.1 vwCl (wl G M) H ∧ va_D G.2.2.2 (wl G M) ∧ va_S G.2.2.2 s.heap H locs ∧ WS G M s
/-- a method: its class's number, bytes, locals, answer, name, instructions -/
abbrev Mi : Type := Nat × ByteArray × Nat × Option FieldType × MethodName × (Nat → Option (Instr × Nat))
def FOK (f : Nat → Option (Instr × Nat)) (cc : ByteArray) : Prop := ∀ pc x, f pc = some x → decode cc pc = .ok x
section SND
variable {p : Program} {l : Launch} {e : Env} {R : Room} {s : State} {m : MethodId} {args : Array Value} {below : List Frame} {meth : Method} {c : Code} {cells slots : Nat} {Qr : State → Prop} {G : Gx}
def CX (G : Gx) (mi : Mi) (d : Nat) (p : Program) (R : Room) (s : State) (m : MethodId) (args : Array Value) (c : Code) (cells slots : Nat) : Prop :=
  p.tables.exec = Jvm.exec ∧ c.code = mi.2.1 ∧ c.maxLocals = mi.2.2.1 ∧ s.vm.findClass (RXn mi.1) = some m.cls ∧ (∀ w ∈ gTbl, w.before args s = true) ∧ d ≤ R.frames ∧ 64 * d ≤ R.locals ∧ cells ≤ R.cells ∧ slots ≤ R.slots ∧ WF G s ∧ FOK mi.2.2.2.2.2 mi.2.1
/-- the machine goes on well from the abstract state -/
def Wt (p : Program) (l : Launch) (e : Env) (R : Room) (s : State) (m : MethodId) (args : Array Value) (below : List Frame) (meth : Method) (c : Code) (cells slots : Nat) (Qr : State → Prop) (G : Gx) (nL : Nat) (pc : Nat) (L : List (Option Value)) (st : List Value) (M : Mem) : Prop :=
  ∀ (H : Heap) (locs : List Loc) (ls : Array Slot), Rp G s M H locs → LR G.2.1 nL L ls → W p l e R s m args below meth c H locs cells slots Qr (F0 m pc ls (st.map (rl G.2.1)))
/-- one step is right: what it asks holds, then the machine goes on well from here when it does from there -/
def SOK (p : Program) (l : Launch) (e : Env) (R : Room) (s : State) (m : MethodId) (args : Array Value) (below : List Frame) (meth : Method) (c : Code) (cells slots : Nat) (Qr : State → Prop) (G : Gx) (nL : Nat) (S S' : St) : Prop :=
  (S'.2.2.2.2 → S.2.2.2.2) ∧ (S'.2.2.2.2 → Wt p l e R s m args below meth c cells slots Qr G nL S'.1 S'.2.1 S'.2.2.1 S'.2.2.2.1 → Wt p l e R s m args below meth c cells slots Qr G nL S.1 S.2.1 S.2.2.1 S.2.2.2.1)
variable {nL o : Nat} {S S' : St}
variable {pc : Nat} {L : List (Option Value)} {st : List Value} {M : Mem} {P : Prop}
theorem psh_ok {n : Nat} {v : Value} (h : psh n v S = some S')
    (row : ∀ (H : Heap) (locs : List Loc) (ls : Array Slot) (rest : List Value), W p l e R s m args below meth c H locs cells slots Qr (F0 m (S.1 + n) ls (rl G.2.1 v :: rest)) → W p l e R s m args below meth c H locs cells slots Qr (F0 m S.1 ls rest)) :
    SOK p l e R s m args below meth c cells slots Qr G nL S S' := by
  obtain ⟨pc, L, st, M, P⟩ := S
  cases h
  exact ⟨id, fun _ k H locs ls hR hL => row H locs ls _ (k H locs ls hR hL)⟩
theorem ar2_ok {g : Int32 → Int32 → Int32} (h : ar2 g S = some S')
    (row : ∀ (H : Heap) (locs : List Loc) (ls : Array Slot) (rest : List Value) (x y : Int32), W p l e R s m args below meth c H locs cells slots Qr (F0 m (S.1 + 1) ls (.int (g x y) :: rest)) → W p l e R s m args below meth c H locs cells slots Qr (F0 m S.1 ls (.int y :: .int x :: rest))) :
    SOK p l e R s m args below meth c cells slots Qr G nL S S' := by
  obtain ⟨pc, L, st, M, P⟩ := S
  unfold ar2 at h
  split at h
  · rename_i heq
    cases heq
    cases h
    exact ⟨id, fun _ k H locs ls hR hL => row H locs ls _ _ _ (k H locs ls hR hL)⟩
  · cases h
theorem ar2d_ok {g : Int32 → Int32 → Int32} (h : ar2d g S = some S')
    (row : ∀ (H : Heap) (locs : List Loc) (ls : Array Slot) (rest : List Value) (x y : Int32), ¬ y = 0 → W p l e R s m args below meth c H locs cells slots Qr (F0 m (S.1 + 1) ls (.int (g x y) :: rest)) → W p l e R s m args below meth c H locs cells slots Qr (F0 m S.1 ls (.int y :: .int x :: rest))) :
    SOK p l e R s m args below meth c cells slots Qr G nL S S' := by
  obtain ⟨pc, L, st, M, P⟩ := S
  unfold ar2d at h
  split at h
  · rename_i heq
    cases heq
    cases h
    exact ⟨And.left, fun hP k H locs ls hR hL => row H locs ls _ _ _ hP.2 (k H locs ls hR hL)⟩
  · cases h
theorem ar1_ok {g : Int32 → Int32} (h : ar1 g S = some S')
    (row : ∀ (H : Heap) (locs : List Loc) (ls : Array Slot) (rest : List Value) (x : Int32), W p l e R s m args below meth c H locs cells slots Qr (F0 m (S.1 + 1) ls (.int (g x) :: rest)) → W p l e R s m args below meth c H locs cells slots Qr (F0 m S.1 ls (.int x :: rest))) :
    SOK p l e R s m args below meth c cells slots Qr G nL S S' := by
  obtain ⟨pc, L, st, M, P⟩ := S
  unfold ar1 at h
  split at h
  · rename_i heq
    cases heq
    cases h
    exact ⟨id, fun _ k H locs ls hR hL => row H locs ls _ _ (k H locs ls hR hL)⟩
  · cases h
variable (hx : p.tables.exec = Jvm.exec) {cc : ByteArray} (hb : c.code = cc)
theorem xlad_ok (h : xlad S = some S') (hx : p.tables.exec = Jvm.exec) (hb : c.code = cc) (hd : decode cc S.1 = .ok (.ladd, 1)) : SOK p l e R s m args below meth c cells slots Qr G nL S S' := by
  obtain ⟨pc, L, st, M, P⟩ := S
  unfold xlad at h
  split at h
  · rename_i heq
    cases heq
    cases h
    exact ⟨id, fun _ k H locs ls hR hL => lv_ladd hx hb hd (k H locs ls hR hL)⟩
  · cases h
theorem xlcm_ok (h : xlcm S = some S') (hx : p.tables.exec = Jvm.exec) (hb : c.code = cc) (hd : decode cc S.1 = .ok (.lcmp, 1)) : SOK p l e R s m args below meth c cells slots Qr G nL S S' := by
  obtain ⟨pc, L, st, M, P⟩ := S
  unfold xlcm at h
  split at h
  · rename_i heq
    cases heq
    cases h
    exact ⟨id, fun _ k H locs ls hR hL => W.lcmp hx hb hd (k H locs ls hR hL)⟩
  · cases h
theorem xdup_ok (h : xdup S = some S') (hx : p.tables.exec = Jvm.exec) (hb : c.code = cc) (hd : decode cc S.1 = .ok (.dup, 1)) : SOK p l e R s m args below meth c cells slots Qr G nL S S' := by
  obtain ⟨pc, L, st, M, P⟩ := S
  unfold xdup at h
  split at h
  · rename_i heq
    cases heq
    cases h
    exact ⟨id, fun _ k H locs ls hR hL => lv_dup hx hb hd rfl (k H locs ls hR hL)⟩
  · rename_i heq
    cases heq
    cases h
    exact ⟨id, fun _ k H locs ls hR hL => lv_dup hx hb hd rfl (k H locs ls hR hL)⟩
  · cases h
theorem xdup2_ok (h : xdup2 S = some S') (hx : p.tables.exec = Jvm.exec) (hb : c.code = cc) (hd : decode cc S.1 = .ok (.dup2, 1)) : SOK p l e R s m args below meth c cells slots Qr G nL S S' := by
  obtain ⟨pc, L, st, M, P⟩ := S
  unfold xdup2 at h
  split at h
  · rename_i heq
    cases heq
    cases h
    exact ⟨id, fun _ k H locs ls hR hL => lv_dup2_11 hx hb hd rfl rfl (k H locs ls hR hL)⟩
  · cases h
theorem xpop_ok (h : xpop S = some S') (hx : p.tables.exec = Jvm.exec) (hb : c.code = cc) (hd : decode cc S.1 = .ok (.pop, 1)) : SOK p l e R s m args below meth c cells slots Qr G nL S S' := by
  obtain ⟨pc, L, st, M, P⟩ := S
  unfold xpop at h
  split at h
  · rename_i heq
    cases heq
    cases h
    exact ⟨id, fun _ k H locs ls hR hL => lv_pop hx hb hd rfl (k H locs ls hR hL)⟩
  · cases h
theorem xgoto_ok {off : Int} (h : xgoto off S = some S') (hx : p.tables.exec = Jvm.exec) (hb : c.code = cc) (hd : decode cc S.1 = .ok (.goto off, 3)) : SOK p l e R s m args below meth c cells slots Qr G nL S S' := by
  obtain ⟨pc, L, st, M, P⟩ := S
  unfold xgoto at h
  dsimp only at h
  split at h
  · rename_i t heq
    cases h
    exact ⟨id, fun _ k H locs ls hR hL => lv_goto hx hb hd heq (k H locs ls hR hL)⟩
  · cases h
theorem ldi_ok {n i : Nat} (h : ldi n i S = some S')
    (row : ∀ (H : Heap) (locs : List Loc) (ls : Array Slot) (rest : List Value) (x : Int32), ls[i]? = some (.val (.int x)) → W p l e R s m args below meth c H locs cells slots Qr (F0 m (S.1 + n) ls (.int x :: rest)) → W p l e R s m args below meth c H locs cells slots Qr (F0 m S.1 ls rest)) :
    SOK p l e R s m args below meth c cells slots Qr G nL S S' := by
  obtain ⟨pc, L, st, M, P⟩ := S
  unfold ldi at h
  dsimp only at h
  split at h
  · rename_i v heq
    cases h
    exact ⟨id, fun _ k H locs ls hR hL => row H locs ls _ _ (hL.at heq) (k H locs ls hR hL)⟩
  · cases h
theorem lda_ok {n i : Nat} (h : lda n i S = some S')
    (row : ∀ (H : Heap) (locs : List Loc) (ls : Array Slot) (rest : List Value) (x : Nat), ls[i]? = some (.val (.ref x)) → W p l e R s m args below meth c H locs cells slots Qr (F0 m (S.1 + n) ls (.ref x :: rest)) → W p l e R s m args below meth c H locs cells slots Qr (F0 m S.1 ls rest)) :
    SOK p l e R s m args below meth c cells slots Qr G nL S S' := by
  obtain ⟨pc, L, st, M, P⟩ := S
  unfold lda at h
  dsimp only at h
  split at h
  · rename_i v heq
    cases h
    exact ⟨id, fun _ k H locs ls hR hL => row H locs ls _ _ (hL.at heq) (k H locs ls hR hL)⟩
  · cases h
theorem blt_of {a b : Nat} (h : Nat.blt a b = true) : a < b := Nat.le_of_ble_eq_true h
theorem sti_ok {n i : Nat} (h : sti n i S = some S')
    (row : ∀ (H : Heap) (locs : List Loc) (ls : Array Slot) (rest : List Value) (x : Int32) (lv : List (Nat × Value)), lv_has ls nL lv → i < nL → (∀ ls' : Array Slot, lv_has ls' nL ((i, .int x) :: lv.filter (fun q => !(q.1 == i) && !(q.1 + 1 == i && q.2.category == 2))) → W p l e R s m args below meth c H locs cells slots Qr (F0 m (S.1 + n) ls' rest)) → W p l e R s m args below meth c H locs cells slots Qr (F0 m S.1 ls (.int x :: rest))) :
    SOK p l e R s m args below meth c cells slots Qr G nL S S' := by
  obtain ⟨pc, L, st, M, P⟩ := S
  unfold sti at h
  split at h
  · rename_i heq
    cases heq
    cases hlt : Nat.blt i L.length with
    | false => rw [hlt] at h; cases h
    | true =>
      rw [hlt] at h
      cases h
      have hi := blt_of hlt
      exact ⟨id, fun _ k H locs ls hR hL => row H locs ls _ _ _ hL.2.1 (by rw [← hL.1]; exact hi) (fun ls' h' => k H locs ls' hR (hL.store hi rfl h'))⟩
  · cases h
theorem sta_ok {n i : Nat} (h : sta n i S = some S')
    (row : ∀ (H : Heap) (locs : List Loc) (ls : Array Slot) (rest : List Value) (x : Nat) (lv : List (Nat × Value)), lv_has ls nL lv → i < nL → (∀ ls' : Array Slot, lv_has ls' nL ((i, .ref x) :: lv.filter (fun q => !(q.1 == i) && !(q.1 + 1 == i && q.2.category == 2))) → W p l e R s m args below meth c H locs cells slots Qr (F0 m (S.1 + n) ls' rest)) → W p l e R s m args below meth c H locs cells slots Qr (F0 m S.1 ls (.ref x :: rest))) :
    SOK p l e R s m args below meth c cells slots Qr G nL S S' := by
  obtain ⟨pc, L, st, M, P⟩ := S
  unfold sta at h
  split at h
  · rename_i heq
    cases heq
    cases hlt : Nat.blt i L.length with
    | false => rw [hlt] at h; cases h
    | true =>
      rw [hlt] at h
      cases h
      have hi := blt_of hlt
      exact ⟨id, fun _ k H locs ls hR hL => row H locs ls _ _ _ hL.2.1 (by rw [← hL.1]; exact hi) (fun ls' h' => k H locs ls' hR (hL.store hi rfl h'))⟩
  · cases h
theorem inc_ok {i : Nat} {k : Int} (h : inc i k S = some S') (hx : p.tables.exec = Jvm.exec) (hb : c.code = cc) (hd : decode cc S.1 = .ok (.iinc i k, 3)) : SOK p l e R s m args below meth c cells slots Qr G nL S S' := by
  obtain ⟨pc, L, st, M, P⟩ := S
  unfold inc at h
  dsimp only at h
  split at h
  · rename_i v heq
    cases h
    refine ⟨id, fun _ kk H locs ls hR hL => ?_⟩
    have hi : i < nL := hL.lt heq
    have hmem : (i, Value.int v) ∈ al G.2.1 L := al_mem.mpr ⟨_, heq, rfl⟩
    obtain ⟨j, hj⟩ := List.getElem?_of_mem hmem
    exact lv_iinc (k := j) hx hb hd hL.2.1 hj rfl hi rfl (fun ls' h' => kk H locs ls' hR (hL.store (v := .int _) (by rw [hL.1]; exact hi) rfl h'))
  · cases h
end SND
