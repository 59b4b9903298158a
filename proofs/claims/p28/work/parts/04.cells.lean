/-! ===== fields, statics and rows: the steps that read and write cells ===== -/
theorem ky_lt {o idx : Nat} {α : Type} {r : α} {f : Nat → Option α} (hf : f 1000000 = none) (h : f (ky o idx) = some r) : idx < 1000 ∧ ky o idx = o * 1000 + idx := by
  unfold ky at h ⊢
  cases hb : Nat.blt idx 1000 with
  | false => rw [hb] at h; rw [show (bif false then o * 1000 + idx else 1000000) = 1000000 from rfl, hf] at h; cases h
  | true => exact ⟨Nat.le_of_ble_eq_true hb, rfl⟩
theorem ky_div {o idx : Nat} (h : idx < 1000) : (o * 1000 + idx) / 1000 = o ∧ (o * 1000 + idx) % 1000 = idx := by omega
theorem fld_at {o idx ci k : Nat} (h : fldR (ky o idx) = some (ci, k)) : (Cond.fieldLink (RXn o) idx (TXn ci k).1 (TXn ci k).2.1 (TXn ci k).2.2.1) ∈ gTbl ∧ ci < 7 ∧ k < nXn ci := by
  obtain ⟨hi, hk⟩ := ky_lt (f := fldR) rfl h
  have hc := fld_ok (ky o idx)
  unfold fldC at hc
  rw [h, hk] at hc
  obtain ⟨e1, e2⟩ := ky_div (o := o) hi
  rw [e1, e2] at hc
  simp only [Bool.and_eq_true, decide_eq_true_eq] at hc
  exact ⟨inAt_g hc.1.1 rfl, hc.1.2, hc.2⟩
theorem stt_at {o idx j : Nat} {b : Bool} (h : sttR (ky o idx) = some (j, b)) : (if b = true then (Cond.fieldLinkNest (RXn o) idx "SlabYard" (stN j) "[I" "SlabYard") ∈ lw_tbl else (Cond.fieldLink (RXn o) idx "SlabYard" (stN j) "[I") ∈ gTbl) ∧ j < 4 := by
  obtain ⟨hi, hk⟩ := ky_lt (f := sttR) rfl h
  have hc := stt_ok (ky o idx)
  unfold sttC at hc
  rw [h, hk] at hc
  obtain ⟨e1, e2⟩ := ky_div (o := o) hi
  rw [e1, e2] at hc
  simp only [Bool.and_eq_true, decide_eq_true_eq] at hc
  cases b with
  | true => exact ⟨inAt_lw hc.1, hc.2⟩
  | false => exact ⟨inAt_g hc.1 rfl, hc.2⟩
theorem cst_at {o idx : Nat} {v : Int32} (h : cstR (ky o idx) = some v) : (Jvm.Cond.constant (RXn o) idx v) ∈ gTbl := by
  obtain ⟨hi, hk⟩ := ky_lt (f := cstR) rfl h
  have hc := cst_ok (ky o idx)
  unfold cstC at hc
  rw [h, hk] at hc
  obtain ⟨e1, e2⟩ := ky_div (o := o) hi
  rw [e1, e2] at hc
  exact inAt_g hc rfl
theorem csl_at {o idx : Nat} {v : Int64} (h : cslR (ky o idx) = some v) : (Jvm.Cond.constantLong (RXn o) idx v) ∈ gTbl := by
  obtain ⟨hi, hk⟩ := ky_lt (f := cslR) rfl h
  have hc := csl_ok (ky o idx)
  unfold cslC at hc
  rw [h, hk] at hc
  obtain ⟨e1, e2⟩ := ky_div (o := o) hi
  rw [e1, e2] at hc
  exact inAt_g hc rfl
theorem WS.wr {G : Gx} {M : Mem} {s : State} {p k : Nat} {v : Int32} (hp : p < nPl) (h : WS G M s) : WS G (wr M p k v) s := by
  have h1 : (104 : Nat) ≠ p := by unfold nPl at hp; omega
  have h2 : (105 : Nat) ≠ p := by unfold nPl at hp; omega
  obtain ⟨N, a, b, c⟩ := h
  exact ⟨N, by rw [wr_ne M h1]; exact a, by rw [wr_ne M h2]; exact b, c⟩
theorem WS.wrL {G : Gx} {M : Mem} {s : State} {p : Nat} {v : Int64} (h : WS G M s) : WS G (wrL M p v) s := h
theorem cellE_obj {G : Gx} {M : Mem} {p ci : Nat} (h : (layF p).1 = ci) (hc : ci < 7) : cellE G M p (layF p) = .inr (ci, (layF p).2.2.mapIdx (fun k c => rl G.2.1 (fvA M p k c))) := by
  unfold cellE
  rw [h, if_pos hc]
theorem cellE_row {G : Gx} {M : Mem} {p kd : Nat} (h : (layF p).1 = kd) (hc : ¬ kd < 7) : cellE G M p (layF p) = .inl (G.2.2.1 kd, (layF p).2.1, .inl (M.1 p)) := by
  unfold cellE
  rw [h, if_neg hc]
section CEL
variable {p : Program} {l : Launch} {e : Env} {R : Room} {s : State} {m : MethodId} {args : Array Value} {below : List Frame} {meth : Method} {c : Code} {cells slots : Nat} {Qr : State → Prop} {G : Gx}
variable {mi : Mi} {d nL : Nat} {S S' : St}
theorem xget_ok {idx : Nat} (h : xget mi.1 idx S = some S') (C : CX G mi d p R s m args c cells slots) (hd : decode mi.2.1 S.1 = .ok (.getfield idx, 3)) : SOK p l e R s m args below meth c cells slots Qr G nL S S' := by
  obtain ⟨hx, hb, -, hown, hts, -, -, -, -, ⟨hK, -, -⟩, -⟩ := C
  obtain ⟨pc, L, st, M, P⟩ := S
  unfold xget at h
  split at h
  · rename_i pl st' M' P' heq
    cases heq
    split at h
    · rename_i ci k hf
      obtain ⟨hw, hci, hk⟩ := fld_at hf
      cases hg : (Nat.blt pl nPl && Nat.beq (layF pl).1 ci) with
      | false => rw [hg] at h; cases h
      | true =>
        rw [hg] at h
        simp only [Bool.and_eq_true] at hg
        have hpl := blt_of hg.1
        have hl := Nat.eq_of_beq_eq_true hg.2
        dsimp only [cond_true] at h
        split at h
        · rename_i cd hcd
          cases h
          refine ⟨id, fun _ k' H locs ls hR hL => ?_⟩
          refine va_get (D := G.1) (ci := ci) (v := rl G.2.1 (fvA M pl k cd)) hx hb hts (uwsIn ci hci) hown hK hR.1 pl (by rw [wl_at G M hpl, cellE_obj hl hci]) (vwCl_at ci hci) k hk (hts _ hw) (fun _ h => h) ?_ hd (k' H locs ls hR hL)
          rw [List.getElem?_mapIdx, hcd]
          rfl
        · cases h
    · cases h
  · cases h
theorem lg_uniq {p k : Nat} (h : lgOK p k = true) : (layF p).2.2[k]? = some 1 ∧ ∀ j, (layF p).2.2[j]? = some 1 → j = k := by
  unfold lgOK at h
  simp only [Bool.or_eq_true, Bool.and_eq_true] at h
  have key : ∀ (L : List Nat) (k n : Nat), L.length = n → (∀ j, j < n → L[j]? = some 1 → j = k) → ∀ j, L[j]? = some 1 → j = k := by
    intro L k n hn hh j hj
    exact hh j (by rw [← hn]; exact (List.getElem?_eq_some_iff.mp hj).1) hj
  rcases h with ⟨h1, h2⟩ | ⟨h1, h2⟩
  · have e1 := Nat.eq_of_beq_eq_true h1
    have e2 := Nat.eq_of_beq_eq_true h2
    subst e1; subst e2
    exact ⟨by decide +kernel, key _ _ 12 (by decide +kernel) (by decide +kernel)⟩
  · have e1 := Nat.eq_of_beq_eq_true h1
    have e2 := Nat.eq_of_beq_eq_true h2
    subst e1; subst e2
    exact ⟨by decide +kernel, key _ _ 12 (by decide +kernel) (by decide +kernel)⟩
theorem xput_ok {idx : Nat} (h : xput mi.1 idx S = some S') (C : CX G mi d p R s m args c cells slots) (hd : decode mi.2.1 S.1 = .ok (.putfield idx, 3)) : SOK p l e R s m args below meth c cells slots Qr G nL S S' := by
  obtain ⟨hx, hb, -, hown, hts, -, -, -, -, ⟨hK, -, -⟩, -⟩ := C
  obtain ⟨pc, L, st, M, P⟩ := S
  unfold xput at h
  split at h
  · rename_i v pl st' M' P' heq
    cases heq
    split at h
    · rename_i ci k hf
      obtain ⟨hw, hci, hk⟩ := fld_at hf
      cases hg : (Nat.blt pl nPl && Nat.beq (layF pl).1 ci && !(TXn ci k).2.2.2) with
      | false => rw [hg] at h; cases h
      | true =>
        rw [hg] at h
        simp only [Bool.and_eq_true, Bool.not_eq_true'] at hg
        have hpl := blt_of hg.1.1
        have hl := Nat.eq_of_beq_eq_true hg.1.2
        dsimp only [cond_true] at h
        have hle : layF pl = (ci, (layF pl).2.1, (layF pl).2.2) := by rw [← hl]
        have key : ∀ (ty : FieldType), tyn ci k = ty → (layF pl).2.2[k]? = some 0 → narrow ty (.int v) = .int v → Jvm.fits ty (.int v) = true → (∀ (H : Heap) (locs : List Loc) (ls : Array Slot), Rp G s (wr M pl k v) H locs → LR G.2.1 nL L ls → W p l e R s m args below meth c H locs cells slots Qr (F0 m (pc + 3) ls (st'.map (rl G.2.1)))) → ∀ (H : Heap) (locs : List Loc) (ls : Array Slot), Rp G s M H locs → LR G.2.1 nL L ls → W p l e R s m args below meth c H locs cells slots Qr (F0 m pc ls (.int v :: .ref (G.2.1 pl) :: st'.map (rl G.2.1))) := by
          intro ty hty hcd hn hft kk H locs ls hR hL
          refine va_put (D := G.1) (ci := ci) (v := .int v) (ty := ty) hx hb hts (uwsIn ci hci) (tyn ci) (tyn_ok ci hci) (nmn ci hci) hown hK hR.1 hR.2.1 hR.2.2.1 pl (by rw [wl_at G M hpl, cellE_obj hl hci]) (vwCl_at ci hci) k hk (hts _ hw) (fun _ h => h) hg.2 (by rw [tyn_ok ci hci k hk, hty]) hn hft ?_ hd (fun H1 locs1 hP1 hD1 hS1 => ?_)
          · rw [List.length_mapIdx]
            exact (List.getElem?_eq_some_iff.mp hcd).1
          · rw [wl_wr G M hpl hle hci hcd] at hP1 hD1
            exact kk H1 locs1 ls ⟨hP1, hD1, hS1, hR.2.2.2.wr hpl⟩ hL
        split at h
        · rename_i hcd hty
          cases h
          exact ⟨id, fun _ k' H locs ls hR hL => key .int hty hcd rfl rfl k' H locs ls hR hL⟩
        · rename_i hcd hty
          cases h
          refine ⟨And.left, fun hP k' H locs ls hR hL => key .boolean hty hcd ?_ ?_ k' H locs ls hR hL⟩
          · rcases hP.2 with e | e <;> rw [e] <;> rfl
          · rcases hP.2 with e | e <;> rw [e] <;> rfl
        · cases h
    · cases h
  · rename_i v pl st' M' P' heq
    cases heq
    split at h
    · rename_i ci k hf
      obtain ⟨hw, hci, hk⟩ := fld_at hf
      cases hg : (Nat.blt pl nPl && Nat.beq (layF pl).1 ci && !(TXn ci k).2.2.2 && lgOK pl k) with
      | false => rw [hg] at h; cases h
      | true =>
        rw [hg] at h
        cases h
        simp only [Bool.and_eq_true, Bool.not_eq_true'] at hg
        have hpl := blt_of hg.1.1.1
        have hl := Nat.eq_of_beq_eq_true hg.1.1.2
        have hle : layF pl = (ci, (layF pl).2.1, (layF pl).2.2) := by rw [← hl]
        obtain ⟨hcd, hu⟩ := lg_uniq hg.2
        have hty : tyn ci k = .long := by
          have h3 := hg.2
          unfold lgOK at h3
          simp only [Bool.or_eq_true, Bool.and_eq_true] at h3
          rcases h3 with ⟨h1, h2⟩ | ⟨h1, h2⟩
          · have e1 := Nat.eq_of_beq_eq_true h1
            have e2 := Nat.eq_of_beq_eq_true h2
            subst e1; subst e2
            rw [← hl]
            rfl
          · have e1 := Nat.eq_of_beq_eq_true h1
            have e2 := Nat.eq_of_beq_eq_true h2
            subst e1; subst e2
            rw [← hl]
            rfl
        refine ⟨id, fun _ kk H locs ls hR hL => ?_⟩
        refine va_put (D := G.1) (ci := ci) (v := .long v) (ty := .long) hx hb hts (uwsIn ci hci) (tyn ci) (tyn_ok ci hci) (nmn ci hci) hown hK hR.1 hR.2.1 hR.2.2.1 pl (by rw [wl_at G M hpl, cellE_obj hl hci]) (vwCl_at ci hci) k hk (hts _ hw) (fun _ h => h) hg.1.2 (by rw [tyn_ok ci hci k hk, hty]) rfl rfl ?_ hd (fun H1 locs1 hP1 hD1 hS1 => ?_)
        · rw [List.length_mapIdx]
          exact (List.getElem?_eq_some_iff.mp hcd).1
        · rw [wl_wrL G M hpl hle hci hcd hu] at hP1 hD1
          exact kk H1 locs1 ls ⟨hP1, hD1, hS1, hR.2.2.2.wrL⟩ hL
    · cases h
  · cases h
theorem xsta_ok {idx : Nat} (h : xsta mi.1 idx S = some S') (C : CX G mi d p R s m args c cells slots) (hd : decode mi.2.1 S.1 = .ok (.getstatic idx, 3)) : SOK p l e R s m args below meth c cells slots Qr G nL S S' := by
  obtain ⟨hx, hb, -, hown, hts, -, -, -, -, ⟨hK, hN, hZ⟩, -⟩ := C
  obtain ⟨pc, L, st, M, P⟩ := S
  unfold xsta at h
  dsimp only at h
  split at h
  · rename_i j b hf
    cases h
    obtain ⟨hw, hj⟩ := stt_at hf
    refine ⟨id, fun _ k' H locs ls hR hL => ?_⟩
    cases b with
    | true => exact va_getsN hx hb (hZ j hj).1 hR.2.2.1 hown ((hN _ (List.mem_filter.mpr ⟨hw, rfl⟩)).use rfl) (fun _ h => h) hd (k' H locs ls hR hL)
    | false => exact va_gets hx hb (hZ j hj).1 hR.2.2.1 hown (hts _ hw) (fun _ h => h) hd (k' H locs ls hR hL)
  · cases h
theorem rdA_row {M : Mem} {q kd n : Nat} {g : Nat → Int32} (h : rdA M q = some (kd, n, g)) : (q < nPl ∧ ¬ kd < 7 ∧ (layF q).1 = kd ∧ (layF q).2.1 = n ∧ g = M.1 q) ∨ (∃ j, j < 4 ∧ q = 100 + j ∧ kd = 20 ∧ n = 4 ∧ g = stV j) ∨ (q = 104 ∧ kd = 20 ∧ n = (M.1 105 0).toNatClampNeg ∧ g = M.1 104) := by
  unfold rdA at h
  cases h1 : Nat.blt q nPl with
  | true =>
    rw [h1] at h
    dsimp only [cond_true] at h
    cases h2 : Nat.blt (layF q).1 7 with
    | true => rw [h2] at h; cases h
    | false =>
      rw [h2] at h
      cases h
      refine Or.inl ⟨blt_of h1, fun hlt => ?_, rfl, rfl, rfl⟩
      rw [show Nat.blt (layF q).1 7 = true from Nat.ble_eq_true_of_le hlt] at h2
      cases h2
  | false =>
    rw [h1] at h
    dsimp only [cond_false] at h
    cases h2 : Nat.blt q 100 with
    | true => rw [h2] at h; cases h
    | false =>
      rw [h2] at h
      dsimp only [cond_false] at h
      have h2' : 100 ≤ q := Nat.not_lt.mp fun hlt => by
        rw [show Nat.blt q 100 = true from Nat.ble_eq_true_of_le hlt] at h2
        cases h2
      cases h3 : Nat.blt q 104 with
      | true =>
        rw [h3] at h
        cases h
        have := blt_of h3
        exact Or.inr (Or.inl ⟨q - 100, by omega, by omega, rfl, rfl, rfl⟩)
      | false =>
        rw [h3] at h
        dsimp only [cond_false] at h
        cases h4 : Nat.beq q 104 with
        | true =>
          rw [h4] at h
          cases h
          exact Or.inr (Or.inr ⟨Nat.eq_of_beq_eq_true h4, rfl, rfl, rfl⟩)
        | false => rw [h4] at h; cases h
theorem xald_row {kd : Nat} {i : Int32} {q : Nat} {st' : List Value} {pc : Nat} {L : List (Option Value)} {M : Mem} {P : Prop} (h : xald kd (pc, L, .int i :: .ref q :: st', M, P) = some S') : ∃ n g, rdA M q = some (kd, n, g) ∧ S' = (pc + 1, L, .int (g i.toNatClampNeg) :: st', M, P ∧ vp_in i n) := by
  unfold xald at h
  dsimp only at h
  split at h
  · rename_i kd' n g hr
    cases hb : Nat.beq kd' kd with
    | false => rw [hb] at h; cases h
    | true =>
      rw [hb] at h
      cases h
      have := Nat.eq_of_beq_eq_true hb
      subst this
      exact ⟨n, g, hr, rfl⟩
  · cases h
theorem xiald_ok (h : xald 20 S = some S') (C : CX G mi d p R s m args c cells slots) (hd : decode mi.2.1 S.1 = .ok (.iaload, 1)) : SOK p l e R s m args below meth c cells slots Qr G nL S S' := by
  obtain ⟨hx, hb, -, hown, hts, -, -, -, -, ⟨hK, hN, hZ⟩, -⟩ := C
  obtain ⟨pc, L, st, M, P⟩ := S
  match st, h with
  | .int i :: .ref q :: st', h =>
    obtain ⟨n, g, hr, rfl⟩ := xald_row h
    refine ⟨And.left, fun hP k' H locs ls hR hL => ?_⟩
    rcases rdA_row hr with ⟨h1, h2, h3, h4, rfl⟩ | ⟨j, h1, rfl, -, rfl, rfl⟩ | ⟨rfl, -, rfl, rfl⟩
    · exact va_iald (D := G.1) hx hb hK hR.1 q 0 (by rw [wl_at G M h1, cellE_row h3 h2, h4]) rfl hP.2 hd (k' H locs ls hR hL)
    · exact va_ti hx hb (hZ j h1).2 hR.2.2.1 hP.2 rfl hd (k' H locs ls hR hL)
    · obtain ⟨N, hT, hN1, hN2⟩ := hR.2.2.2
      have e : (M.1 105 0).toNatClampNeg = N := by rw [← hN1]; exact Int32.toNatClampNeg_ofNat_of_lt hN2
      rw [e] at hP
      exact va_ti hx hb hT hR.2.2.1 hP.2 rfl hd (k' H locs ls hR hL)
  | [], h => cases h
  | [_], h => first | cases h | (rename_i v; cases v <;> cases h)
  | .int _ :: .int _ :: _, h => cases h
  | .int _ :: .long _ :: _, h => cases h
  | .int _ :: .float _ :: _, h => cases h
  | .int _ :: .double _ :: _, h => cases h
  | .int _ :: .null :: _, h => cases h
  | .int _ :: .retAddr _ :: _, h => cases h
  | .long _ :: _ :: _, h => cases h
  | .float _ :: _ :: _, h => cases h
  | .double _ :: _ :: _, h => cases h
  | .null :: _ :: _, h => cases h
  | .ref _ :: _ :: _, h => cases h
  | .retAddr _ :: _ :: _, h => cases h
theorem xbld_ok (h : xbld S = some S') : SOK p l e R s m args below meth c cells slots Qr G nL S S' := by cases h
theorem xast_row {kd : Nat} {nar : Int32 → Int32} {i v : Int32} {q : Nat} {st' : List Value} {pc : Nat} {L : List (Option Value)} {M : Mem} {P : Prop} (h : xast kd nar (pc, L, .int v :: .int i :: .ref q :: st', M, P) = some S') : q < nPl ∧ (layF q).1 = kd ∧ S' = (pc + 1, L, st', wr M q i.toNatClampNeg (nar v), P ∧ vp_in i (layF q).2.1) := by
  unfold xast at h
  dsimp only at h
  cases hb : (Nat.blt q nPl && Nat.beq (layF q).1 kd) with
  | false => rw [hb] at h; cases h
  | true =>
    rw [hb] at h
    cases h
    simp only [Bool.and_eq_true] at hb
    exact ⟨blt_of hb.1, Nat.eq_of_beq_eq_true hb.2, rfl⟩
theorem xiast_ok (h : xast 20 (fun v => v) S = some S') (C : CX G mi d p R s m args c cells slots) (hd : decode mi.2.1 S.1 = .ok (.iastore, 1)) : SOK p l e R s m args below meth c cells slots Qr G nL S S' := by
  obtain ⟨hx, hb, -, hown, hts, -, -, -, -, ⟨hK, hN, hZ⟩, -⟩ := C
  obtain ⟨pc, L, st, M, P⟩ := S
  have h' := h
  unfold xast at h'
  split at h'
  · rename_i heq
    cases heq
    obtain ⟨h1, h3, rfl⟩ := xast_row h
    refine ⟨And.left, fun hP k' H locs ls hR hL => ?_⟩
    refine va_iast (D := G.1) hx hb hK hR.1 hR.2.1 hR.2.2.1 _ 0 (by rw [wl_at G M h1, cellE_row h3 (by decide)]) rfl hP.2 hd (fun H1 locs1 hP1 hD1 hS1 => ?_)
    rw [wl_wra G M h1 (show layF _ = (20, (layF _).2.1, (layF _).2.2) by rw [← h3]) (by decide)] at hP1 hD1
    exact k' H1 locs1 ls ⟨hP1, hD1, hS1, hR.2.2.2.wr h1⟩ hL
  · cases h'
theorem xbst_ok (h : xbst S = some S') : SOK p l e R s m args below meth c cells slots Qr G nL S S' := by cases h
theorem xlen_ok (h : xlen S = some S') (C : CX G mi d p R s m args c cells slots) (hd : decode mi.2.1 S.1 = .ok (.arraylength, 1)) : SOK p l e R s m args below meth c cells slots Qr G nL S S' := by
  obtain ⟨hx, hb, -, hown, hts, -, -, -, -, ⟨hK, hN, hZ⟩, -⟩ := C
  obtain ⟨pc, L, st, M, P⟩ := S
  unfold xlen at h
  split at h
  · rename_i q st' M' P' heq
    cases heq
    cases hq : Nat.beq q 104 with
    | false =>
      rw [hq] at h
      dsimp only [cond_false] at h
      cases hr : (Nat.ble 100 q && Nat.blt q 104) with
      | false => rw [hr] at h; cases h
      | true =>
        rw [hr] at h
        cases h
        simp only [Bool.and_eq_true] at hr
        have h1 := Nat.le_of_ble_eq_true hr.1
        have h2 := blt_of hr.2
        obtain ⟨j, rfl⟩ : ∃ j : Nat, q = 100 + j := ⟨Nat.sub q 100, (Nat.add_sub_cancel' h1).symm⟩
        have hj : j < 4 := Nat.lt_of_add_lt_add_left (show 100 + j < 100 + 4 from h2)
        refine ⟨id, fun _ k' H locs ls hR hL => ?_⟩
        exact va_tlen hx hb (hZ j hj).2 hR.2.2.1 rfl hd (k' H locs ls hR hL)
    | true =>
      rw [hq] at h
      cases h
      have := Nat.eq_of_beq_eq_true hq
      subst this
      refine ⟨id, fun _ k' H locs ls hR hL => ?_⟩
      obtain ⟨N, hT, hN1, hN2⟩ := hR.2.2.2
      exact va_tlen hx hb hT hR.2.2.1 hN1 hd (k' H locs ls hR hL)
  · cases h
end CEL
