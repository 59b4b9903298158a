/-! ===== steps together; the judgement of the abstract machine ===== -/
section STP
variable {p : Program} {l : Launch} {e : Env} {R : Room} {s : State} {m : MethodId} {args : Array Value} {below : List Frame} {meth : Method} {c : Code} {cells slots : Nat} {Qr : State → Prop} {G : Gx}
variable {mi : Mi} {d nL : Nat} {S S' : St}
set_option maxHeartbeats 4000000 in
theorem stp_ok {x : Instr × Nat} (h : stp mi.1 x S = some S') (C : CX G mi d p R s m args c cells slots) (hd : decode mi.2.1 S.1 = .ok x) : SOK p l e R s m args below meth c cells slots Qr G nL S S' := by
  obtain ⟨hx, hb, -, hown, hts, -⟩ := id C
  unfold stp at h
  split at h
  · exact psh_ok h (fun _ _ _ _ k => lv_iconst hx hb hd rfl k)
  · exact psh_ok h (fun _ _ _ _ k => lv_bipush hx hb hd rfl k)
  · exact psh_ok h (fun _ _ _ _ k => lv_sipush hx hb hd rfl k)
  · exact psh_ok h (fun _ _ _ _ k => lv_lconst hx hb hd rfl k)
  · unfold cic at h
    split at h
    · rename_i hc
      exact psh_ok h (fun _ _ _ _ k => lv_ldc hx hb hown (hts _ (cst_at hc)) hd k)
    · cases h
  · unfold cic at h
    split at h
    · rename_i hc
      exact psh_ok h (fun _ _ _ _ k => lv_ldcw hx hb hown (hts _ (cst_at hc)) hd k)
    · cases h
  · unfold cil at h
    split at h
    · rename_i hc
      exact psh_ok h (fun _ _ _ _ k => lv_ldc2 hx hb hown (hts _ (csl_at hc)) hd k)
    · cases h
  · exact ldi_ok h (fun _ _ _ _ _ hl k => lv_iload_n hx hb hd rfl hl k)
  · exact ldi_ok h (fun _ _ _ _ _ hl k => lv_iload hx hb hd hl k)
  · exact lda_ok h (fun _ _ _ _ _ hl k => lv_aload_n hx hb hd rfl hl k)
  · exact lda_ok h (fun _ _ _ _ _ hl k => lv_aload hx hb hd hl k)
  · exact sti_ok h (fun _ _ _ _ _ _ hl hn k => lv_istore_n hx hb hd rfl hl hn rfl k)
  · exact sti_ok h (fun _ _ _ _ _ _ hl hn k => lv_istore hx hb hd hl hn rfl k)
  · exact sta_ok h (fun _ _ _ _ _ _ hl hn k => lv_astore_n hx hb hd rfl hl hn rfl k)
  · exact sta_ok h (fun _ _ _ _ _ _ hl hn k => lv_astore hx hb hd hl hn rfl k)
  · exact inc_ok h hx hb hd
  · exact ar2_ok h (fun _ _ _ _ _ _ k => lv_iadd hx hb hd k)
  · exact ar2_ok h (fun _ _ _ _ _ _ k => lv_isub hx hb hd k)
  · exact ar2_ok h (fun _ _ _ _ _ _ k => lv_imul hx hb hd k)
  · exact ar2_ok h (fun _ _ _ _ _ _ k => lv_iand hx hb hd k)
  · exact ar2_ok h (fun _ _ _ _ _ _ k => lv_ior hx hb hd k)
  · exact ar2_ok h (fun _ _ _ _ _ _ k => lv_ixor hx hb hd k)
  · exact ar2_ok h (fun _ _ _ _ _ _ k => lv_ishl hx hb hd k)
  · exact ar2_ok h (fun _ _ _ _ _ _ k => lv_ishr hx hb hd k)
  · exact ar2_ok h (fun _ _ _ _ _ _ k => lv_iushr hx hb hd rfl k)
  · exact ar2d_ok h (fun _ _ _ _ _ _ hy k => lv_idiv hx hb hd hy k)
  · exact ar2d_ok h (fun _ _ _ _ _ _ hy k => lv_irem hx hb hd hy k)
  · exact ar1_ok h (fun _ _ _ _ _ k => lv_ineg hx hb hd k)
  · exact ar1_ok h (fun _ _ _ _ _ k => lv_i2b hx hb hd rfl k)
  · exact xlad_ok h hx hb hd
  · exact xlcm_ok h hx hb hd
  · exact xdup_ok h hx hb hd
  · exact xdup2_ok h hx hb hd
  · exact xpop_ok h hx hb hd
  · exact xgoto_ok h hx hb hd
  · exact xget_ok h C hd
  · exact xput_ok h C hd
  · exact xsta_ok h C hd
  · exact xiald_ok h C hd
  · exact xbld_ok h
  · exact xiast_ok h C hd
  · exact xbst_ok h
  · exact xlen_ok h C hd
  · cases h
theorem run_ok (C : CX G mi d p R s m args c cells slots) : ∀ (n : Nat) (S S' : St), run mi.1 mi.2.2.2.2.2 n S = some S' → SOK p l e R s m args below meth c cells slots Qr G nL S S'
  | 0, S, S', h => by cases h; exact ⟨id, fun _ k => k⟩
  | n + 1, S, S', h => by
    unfold run at h
    split at h
    · rename_i x hf
      split at h
      · rename_i S1 hs
        have h1 : SOK p l e R s m args below meth c cells slots Qr G nL S S1 := stp_ok hs C (C.2.2.2.2.2.2.2.2.2.2 _ _ hf)
        have h2 := run_ok C n S1 S' h
        exact ⟨fun q => h1.1 (h2.1 q), fun q k => h1.2 (h2.1 q) (h2.2 q k)⟩
      · cases h
    · cases h
end STP
/-- a method's end: the instruction, what lies on the stack, what is answered -/
def RetOk (ret : Option FieldType) (ins : Instr) (st : List Value) (rv : Option Value) : Prop :=
  (ins = .return_ ∧ ret = none ∧ st = [] ∧ rv = none) ∨ (∃ v ty, ins = .ireturn ∧ ret = some ty ∧ st = [.int v] ∧ rv = some (.int v) ∧ narrow ty (.int v) = .int v) ∨
  (∃ v, ins = .lreturn ∧ ret = some .long ∧ st = [.long v] ∧ rv = some (.long v)) ∨ (∃ q C, ins = .areturn ∧ ret = some (.object C) ∧ st = [.ref q] ∧ rv = some (.ref q))
/-- from here the method comes to its end, with Q of its answer and of the numbers then; calls at most d deep -/
def WX (mi : Mi) (d : Nat) (Q : Option Value → Mem → Prop) (pc : Nat) (L : List (Option Value)) (st : List Value) (M : Mem) : Prop :=
  ∀ (p : Program) (l : Launch) (e : Env) (R : Room) (s : State) (m : MethodId) (args : Array Value) (below : List Frame) (meth : Method) (c : Code) (cells slots : Nat) (Qr : State → Prop) (G : Gx),
    CX G mi d p R s m args c cells slots →
    (∀ (pc' : Nat) (L' : List (Option Value)) (st' : List Value) (M' : Mem) (ins : Instr) (rv : Option Value), mi.2.2.2.2.2 pc' = some (ins, 1) → RetOk mi.2.2.2.1 ins st' rv → Q rv M' → Wt p l e R s m args below meth c cells slots Qr G mi.2.2.1 pc' L' st' M') →
    Wt p l e R s m args below meth c cells slots Qr G mi.2.2.1 pc L st M
section WXR
variable {mi : Mi} {d : Nat} {Q Q' : Option Value → Mem → Prop} {pc pc' : Nat} {L L' : List (Option Value)} {st st' : List Value} {M M' : Mem}
theorem WX.run {P : Prop} (n : Nat) (h : run mi.1 mi.2.2.2.2.2 n (pc, L, st, M, True) = some (pc', L', st', M', P)) (hP : P) (k : WX mi d Q pc' L' st' M') : WX mi d Q pc L st M := by
  intro p l e R s m args below meth c cells slots Qr G C E
  exact (run_ok C n _ _ h).2 hP (k p l e R s m args below meth c cells slots Qr G C E)
theorem WX.mono (h : WX mi d Q pc L st M) (hq : ∀ rv M', Q rv M' → Q' rv M') : WX mi d Q' pc L st M := by
  intro p l e R s m args below meth c cells slots Qr G C E
  exact h p l e R s m args below meth c cells slots Qr G C (fun pc' L' st' M' ins rv h1 h2 h3 => E pc' L' st' M' ins rv h1 h2 (hq _ _ h3))
theorem WX.ret {ins : Instr} {rv : Option Value} (hf : mi.2.2.2.2.2 pc = some (ins, 1)) (hr : RetOk mi.2.2.2.1 ins st rv) (hq : Q rv M) : WX mi d Q pc L st M := by
  intro p l e R s m args below meth c cells slots Qr G C E
  exact E pc L st M ins rv hf hr hq
theorem WX.iret {v : Int32} (hf : mi.2.2.2.2.2 pc = some (.ireturn, 1)) (hr : mi.2.2.2.1 = some .int) (hq : Q (some (.int v)) M) : WX mi d Q pc L [.int v] M :=
  WX.ret hf (Or.inr (Or.inl ⟨v, .int, rfl, hr, rfl, rfl, rfl⟩)) hq
theorem WX.zret {v : Int32} (hf : mi.2.2.2.2.2 pc = some (.ireturn, 1)) (hr : mi.2.2.2.1 = some .boolean) (hv : v = 0 ∨ v = 1) (hq : Q (some (.int v)) M) : WX mi d Q pc L [.int v] M :=
  WX.ret hf (Or.inr (Or.inl ⟨v, .boolean, rfl, hr, rfl, rfl, by rcases hv with e | e <;> rw [e] <;> rfl⟩)) hq
theorem WX.lret {v : Int64} (hf : mi.2.2.2.2.2 pc = some (.lreturn, 1)) (hr : mi.2.2.2.1 = some .long) (hq : Q (some (.long v)) M) : WX mi d Q pc L [.long v] M :=
  WX.ret hf (Or.inr (Or.inr (Or.inl ⟨v, rfl, hr, rfl, rfl⟩))) hq
theorem WX.vret (hf : mi.2.2.2.2.2 pc = some (.return_, 1)) (hr : mi.2.2.2.1 = none) (hq : Q none M) : WX mi d Q pc L [] M :=
  WX.ret hf (Or.inl ⟨rfl, hr, rfl, rfl⟩) hq
theorem WX.aret {q : Nat} {K : String} (hf : mi.2.2.2.2.2 pc = some (.areturn, 1)) (hr : mi.2.2.2.1 = some (.object K)) (hq : Q (some (.ref q)) M) : WX mi d Q pc L [.ref q] M :=
  WX.ret hf (Or.inr (Or.inr (Or.inr ⟨q, K, rfl, hr, rfl, rfl⟩))) hq
theorem WX.if_eq {x : Int32} {off : Int} {tgt : Nat} (hf : mi.2.2.2.2.2 pc = some (.ifCond .eq off, 3)) (ht : (pc : Int) + off = (tgt : Int)) (kt : x = 0 → WX mi d Q tgt L st M) (kf : ¬ x = 0 → WX mi d Q (pc + 3) L st M) : WX mi d Q pc L (.int x :: st) M := by
  intro p l e R s m args below meth c cells slots Qr G C E H locs ls hR hL
  exact lv_if_eq C.1 C.2.1 (C.2.2.2.2.2.2.2.2.2.2 _ _ hf) ht (fun q => kt q p l e R s m args below meth c cells slots Qr G C E H locs ls hR hL) (fun q => kf q p l e R s m args below meth c cells slots Qr G C E H locs ls hR hL)
theorem WX.icmp_eq {x y : Int32} {off : Int} {tgt : Nat} (hf : mi.2.2.2.2.2 pc = some (.if_icmp .eq off, 3)) (ht : (pc : Int) + off = (tgt : Int)) (kt : x = y → WX mi d Q tgt L st M) (kf : ¬ x = y → WX mi d Q (pc + 3) L st M) : WX mi d Q pc L (.int y :: .int x :: st) M := by
  intro p l e R s m args below meth c cells slots Qr G C E H locs ls hR hL
  exact lv_icmp_eq C.1 C.2.1 (C.2.2.2.2.2.2.2.2.2.2 _ _ hf) ht (fun q => kt q p l e R s m args below meth c cells slots Qr G C E H locs ls hR hL) (fun q => kf q p l e R s m args below meth c cells slots Qr G C E H locs ls hR hL)
theorem WX.if_ne {x : Int32} {off : Int} {tgt : Nat} (hf : mi.2.2.2.2.2 pc = some (.ifCond .ne off, 3)) (ht : (pc : Int) + off = (tgt : Int)) (kt : ¬ x = 0 → WX mi d Q tgt L st M) (kf : x = 0 → WX mi d Q (pc + 3) L st M) : WX mi d Q pc L (.int x :: st) M := by
  intro p l e R s m args below meth c cells slots Qr G C E H locs ls hR hL
  exact lv_if_ne C.1 C.2.1 (C.2.2.2.2.2.2.2.2.2.2 _ _ hf) ht (fun q => kt q p l e R s m args below meth c cells slots Qr G C E H locs ls hR hL) (fun q => kf q p l e R s m args below meth c cells slots Qr G C E H locs ls hR hL)
theorem WX.icmp_ne {x y : Int32} {off : Int} {tgt : Nat} (hf : mi.2.2.2.2.2 pc = some (.if_icmp .ne off, 3)) (ht : (pc : Int) + off = (tgt : Int)) (kt : ¬ x = y → WX mi d Q tgt L st M) (kf : x = y → WX mi d Q (pc + 3) L st M) : WX mi d Q pc L (.int y :: .int x :: st) M := by
  intro p l e R s m args below meth c cells slots Qr G C E H locs ls hR hL
  exact lv_icmp_ne C.1 C.2.1 (C.2.2.2.2.2.2.2.2.2.2 _ _ hf) ht (fun q => kt q p l e R s m args below meth c cells slots Qr G C E H locs ls hR hL) (fun q => kf q p l e R s m args below meth c cells slots Qr G C E H locs ls hR hL)
theorem WX.if_lt {x : Int32} {off : Int} {tgt : Nat} (hf : mi.2.2.2.2.2 pc = some (.ifCond .lt off, 3)) (ht : (pc : Int) + off = (tgt : Int)) (kt : x < 0 → WX mi d Q tgt L st M) (kf : ¬ x < 0 → WX mi d Q (pc + 3) L st M) : WX mi d Q pc L (.int x :: st) M := by
  intro p l e R s m args below meth c cells slots Qr G C E H locs ls hR hL
  exact lv_if_lt C.1 C.2.1 (C.2.2.2.2.2.2.2.2.2.2 _ _ hf) ht (fun q => kt q p l e R s m args below meth c cells slots Qr G C E H locs ls hR hL) (fun q => kf q p l e R s m args below meth c cells slots Qr G C E H locs ls hR hL)
theorem WX.icmp_lt {x y : Int32} {off : Int} {tgt : Nat} (hf : mi.2.2.2.2.2 pc = some (.if_icmp .lt off, 3)) (ht : (pc : Int) + off = (tgt : Int)) (kt : x < y → WX mi d Q tgt L st M) (kf : ¬ x < y → WX mi d Q (pc + 3) L st M) : WX mi d Q pc L (.int y :: .int x :: st) M := by
  intro p l e R s m args below meth c cells slots Qr G C E H locs ls hR hL
  exact lv_icmp_lt C.1 C.2.1 (C.2.2.2.2.2.2.2.2.2.2 _ _ hf) ht (fun q => kt q p l e R s m args below meth c cells slots Qr G C E H locs ls hR hL) (fun q => kf q p l e R s m args below meth c cells slots Qr G C E H locs ls hR hL)
theorem WX.if_ge {x : Int32} {off : Int} {tgt : Nat} (hf : mi.2.2.2.2.2 pc = some (.ifCond .ge off, 3)) (ht : (pc : Int) + off = (tgt : Int)) (kt : 0 ≤ x → WX mi d Q tgt L st M) (kf : ¬ 0 ≤ x → WX mi d Q (pc + 3) L st M) : WX mi d Q pc L (.int x :: st) M := by
  intro p l e R s m args below meth c cells slots Qr G C E H locs ls hR hL
  exact lv_if_ge C.1 C.2.1 (C.2.2.2.2.2.2.2.2.2.2 _ _ hf) ht (fun q => kt q p l e R s m args below meth c cells slots Qr G C E H locs ls hR hL) (fun q => kf q p l e R s m args below meth c cells slots Qr G C E H locs ls hR hL)
theorem WX.icmp_ge {x y : Int32} {off : Int} {tgt : Nat} (hf : mi.2.2.2.2.2 pc = some (.if_icmp .ge off, 3)) (ht : (pc : Int) + off = (tgt : Int)) (kt : y ≤ x → WX mi d Q tgt L st M) (kf : ¬ y ≤ x → WX mi d Q (pc + 3) L st M) : WX mi d Q pc L (.int y :: .int x :: st) M := by
  intro p l e R s m args below meth c cells slots Qr G C E H locs ls hR hL
  exact lv_icmp_ge C.1 C.2.1 (C.2.2.2.2.2.2.2.2.2.2 _ _ hf) ht (fun q => kt q p l e R s m args below meth c cells slots Qr G C E H locs ls hR hL) (fun q => kf q p l e R s m args below meth c cells slots Qr G C E H locs ls hR hL)
theorem WX.if_gt {x : Int32} {off : Int} {tgt : Nat} (hf : mi.2.2.2.2.2 pc = some (.ifCond .gt off, 3)) (ht : (pc : Int) + off = (tgt : Int)) (kt : 0 < x → WX mi d Q tgt L st M) (kf : ¬ 0 < x → WX mi d Q (pc + 3) L st M) : WX mi d Q pc L (.int x :: st) M := by
  intro p l e R s m args below meth c cells slots Qr G C E H locs ls hR hL
  exact lv_if_gt C.1 C.2.1 (C.2.2.2.2.2.2.2.2.2.2 _ _ hf) ht (fun q => kt q p l e R s m args below meth c cells slots Qr G C E H locs ls hR hL) (fun q => kf q p l e R s m args below meth c cells slots Qr G C E H locs ls hR hL)
theorem WX.icmp_gt {x y : Int32} {off : Int} {tgt : Nat} (hf : mi.2.2.2.2.2 pc = some (.if_icmp .gt off, 3)) (ht : (pc : Int) + off = (tgt : Int)) (kt : y < x → WX mi d Q tgt L st M) (kf : ¬ y < x → WX mi d Q (pc + 3) L st M) : WX mi d Q pc L (.int y :: .int x :: st) M := by
  intro p l e R s m args below meth c cells slots Qr G C E H locs ls hR hL
  exact lv_icmp_gt C.1 C.2.1 (C.2.2.2.2.2.2.2.2.2.2 _ _ hf) ht (fun q => kt q p l e R s m args below meth c cells slots Qr G C E H locs ls hR hL) (fun q => kf q p l e R s m args below meth c cells slots Qr G C E H locs ls hR hL)
theorem WX.if_le {x : Int32} {off : Int} {tgt : Nat} (hf : mi.2.2.2.2.2 pc = some (.ifCond .le off, 3)) (ht : (pc : Int) + off = (tgt : Int)) (kt : x ≤ 0 → WX mi d Q tgt L st M) (kf : ¬ x ≤ 0 → WX mi d Q (pc + 3) L st M) : WX mi d Q pc L (.int x :: st) M := by
  intro p l e R s m args below meth c cells slots Qr G C E H locs ls hR hL
  exact lv_if_le C.1 C.2.1 (C.2.2.2.2.2.2.2.2.2.2 _ _ hf) ht (fun q => kt q p l e R s m args below meth c cells slots Qr G C E H locs ls hR hL) (fun q => kf q p l e R s m args below meth c cells slots Qr G C E H locs ls hR hL)
theorem WX.icmp_le {x y : Int32} {off : Int} {tgt : Nat} (hf : mi.2.2.2.2.2 pc = some (.if_icmp .le off, 3)) (ht : (pc : Int) + off = (tgt : Int)) (kt : x ≤ y → WX mi d Q tgt L st M) (kf : ¬ x ≤ y → WX mi d Q (pc + 3) L st M) : WX mi d Q pc L (.int y :: .int x :: st) M := by
  intro p l e R s m args below meth c cells slots Qr G C E H locs ls hR hL
  exact lv_icmp_le C.1 C.2.1 (C.2.2.2.2.2.2.2.2.2.2 _ _ hf) ht (fun q => kt q p l e R s m args below meth c cells slots Qr G C E H locs ls hR hL) (fun q => kf q p l e R s m args below meth c cells slots Qr G C E H locs ls hR hL)
theorem WX.tswIn {dflt lo hi : Int} {offs : Array Int} {len : Nat} {x : Int32} {off : Int} {tgt : Nat} (hf : mi.2.2.2.2.2 pc = some (.tableswitch dflt lo hi offs, len)) (h1 : ¬ x.toInt < lo) (h2 : ¬ hi < x.toInt) (ho : offs[(x.toInt - lo).toNat]? = some off) (ht : (pc : Int) + off = (tgt : Int)) (k : WX mi d Q tgt L st M) : WX mi d Q pc L (.int x :: st) M := by
  intro p l e R s m args below meth c cells slots Qr G C E H locs ls hR hL
  exact lv_tableIn C.1 C.2.1 (C.2.2.2.2.2.2.2.2.2.2 _ _ hf) h1 h2 ho ht (k p l e R s m args below meth c cells slots Qr G C E H locs ls hR hL)
theorem WX.tswOut {dflt lo hi : Int} {offs : Array Int} {len : Nat} {x : Int32} {tgt : Nat} (hf : mi.2.2.2.2.2 pc = some (.tableswitch dflt lo hi offs, len)) (h : x.toInt < lo ∨ hi < x.toInt) (ht : (pc : Int) + dflt = (tgt : Int)) (k : WX mi d Q tgt L st M) : WX mi d Q pc L (.int x :: st) M := by
  intro p l e R s m args below meth c cells slots Qr G C E H locs ls hR hL
  exact lv_tableOut C.1 C.2.1 (C.2.2.2.2.2.2.2.2.2.2 _ _ hf) h ht (k p l e R s m args below meth c cells slots Qr G C E H locs ls hR hL)
theorem WX.lsw {dflt : Int} {ps : Array (Int × Int)} {len : Nat} {x : Int32} {off : Int} {tgt : Nat} (hf : mi.2.2.2.2.2 pc = some (.lookupswitch dflt ps, len)) (hp : (ps.toList.zip (ps.toList.drop 1)).all (fun (a, next) => a.1 < next.1) = true) (ho : Op.lookupswitch.offset ps.toList dflt x.toInt = off) (ht : (pc : Int) + off = (tgt : Int)) (k : WX mi d Q tgt L st M) : WX mi d Q pc L (.int x :: st) M := by
  intro p l e R s m args below meth c cells slots Qr G C E H locs ls hR hL
  exact lv_lookup C.1 C.2.1 (C.2.2.2.2.2.2.2.2.2.2 _ _ hf) hp ho ht (k p l e R s m args below meth c cells slots Qr G C E H locs ls hR hL)
theorem WX.forget (h : WX mi d Q pc L' st M) (hn : L'.length = L.length) (hs : ∀ i v, gl L' i = some v → gl L i = some v) : WX mi d Q pc L st M := by
  intro p l e R s m args below meth c cells slots Qr G C E H locs ls hR hL
  refine h p l e R s m args below meth c cells slots Qr G C E H locs ls hR ⟨hn.trans hL.1, ⟨hL.2.1.1, hL.2.1.2.1, fun q hq => ?_⟩, fun i v hv => hL.2.2 i v (hs i v hv)⟩
  obtain ⟨v, h1, h2⟩ := al_mem.mp hq
  exact hL.2.1.2.2 q (al_mem.mpr ⟨v, hs _ _ h1, h2⟩)
end WXR
