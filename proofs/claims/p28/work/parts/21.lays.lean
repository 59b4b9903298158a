/-! ===== lays, lifts ===== -/
def RCx (b : Nat) (p : Pl) (g : Gd) (M : Mem) : Prop := (∀ k, k < 16 → thr p k = true → M.1 (b + 1) k = nI (gHt g k)) ∧ (∀ u, u < 16 → M.1 (b + 2) u = eSz (szAt g u)) ∧ (∀ z, z < 4 → M.1 (b + 3) z = nI (gSt g z)) ∧
  M.1 b 3 = sI (fun u => (szAt g u).isSome && gTd g u) ∧ M.1 b 4 = nI (gDy g)
theorem RCg_iff {b : Nat} {p : Pl} {gh : Gh} {M : Mem} : RCg b p gh M ↔ RCx b p gh.1 M ∧ RCh b gh.2 M := by
  unfold RCg RCx RCh
  constructor
  · rintro ⟨h1, h2, h3, h4, h5, h6⟩; exact ⟨⟨h1, h2, h3, h4, h5⟩, h6⟩
  · rintro ⟨⟨h1, h2, h3, h4, h5⟩, h6⟩; exact ⟨h1, h2, h3, h4, h5, h6⟩
theorem num_1 : ∀ u, u < 16 → z_C_isNumber (nI u) = 1 := by decide +kernel
theorem nI_posS {n : Nat} (h : 0 < n) : nI n - 1 = nI (n - 1) := by
  have := nI_pred (n - 1)
  rw [show n - 1 + 1 = n by omega] at this
  exact this
theorem wx_put {B : Nat} {p : Pl} {g : Gd} {M : Mem} {z u : Nat} {t : Bool} {Q : Option Value → Mem → Prop} (hz : z < 4) (hu : u < 16) (hg : WfG B p g) (h : lyO p g (16 * z + u)) (hs : 0 < gSt g z) (hc : RCx 9 p g M)
    (hQ : ∀ M', RCx 9 p (putc (16 * z + u) t g) M' → (∀ q, q ≠ 9 → q ≠ 11 → q ≠ 12 → M'.1 q = M.1 q) → (∀ k, k ≠ 3 → M'.1 9 k = M.1 9 k) → M'.2 = M.2 → Q none M') : WX mi_G_put 2 Q 0 [some (.ref 9), some (.int (nI z)), some (.int (nI u)), some (.int (bI t))] [] M := by
  obtain ⟨c1, c2, c3, c4, c5⟩ := hc
  have e1 : ¬ z_C_isSize (nI z) = 0 := by rw [size_1 z hz]; decide
  have e2 : ¬ z_C_isNumber (nI u) = 0 := by rw [num_1 u hu]; decide
  have em : (16 * z + u) % 16 = u := by omega
  have ed : (16 * z + u) / 16 = z := by omega
  have hun : szAt g u = none := by
    have := (h.2 u (by have := inS_self (16 * z + u) (by omega); rw [em] at this; exact this)).2.2
    unfold szAt
    rw [this]
  have sz : ∀ v, szAt (putc (16 * z + u) t g) v = if v = u then some z else szAt g v := fun v => by rw [szAt_putc h, em, ed]
  have td : ∀ v, ((szAt (putc (16 * z + u) t g) v).isSome && gTd (putc (16 * z + u) t g) v) = (((szAt g v).isSome && gTd g v) || (decide (v = u) && t)) := by
    intro v
    rw [sz]
    show (_ && (if inS (16 * z + u) v = true then t else gTd g v)) = _
    by_cases e : v = u
    · subst e
      rw [if_pos rfl, hun, if_pos (by have := inS_self (16 * z + v) (by omega); rw [em] at this; exact this)]
      simp
    · rw [if_neg e]
      by_cases hi : inS (16 * z + u) v = true
      · have : szAt g v = none := by unfold szAt; rw [(h.2 v hi).2.2]
        rw [this]
        simp [e]
      · rw [if_neg hi]
        simp [e]
  have key : ∀ M', M' = wr (wr M 11 u (nI z)) 12 z (nI (gSt g z - 1)) ∨ M' = wr (wr (wr M 11 u (nI z)) 12 z (nI (gSt g z - 1))) 9 3 (sI (fun v => ((szAt g v).isSome && gTd g v) || (decide (v = u) && t))) → M'.1 9 3 = sI (fun v => ((szAt g v).isSome && gTd g v) || (decide (v = u) && t)) → Q none M' := by
    intro M' hM h3
    have r10 : M'.1 10 = M.1 10 := by rcases hM with rfl | rfl <;> funext j <;> simp [wr]
    have r11 : ∀ j, M'.1 11 j = if j = u then nI z else M.1 11 j := by intro j; rcases hM with rfl | rfl <;> simp [wr]
    have r12 : ∀ j, M'.1 12 j = if j = z then nI (gSt g z - 1) else M.1 12 j := by intro j; rcases hM with rfl | rfl <;> simp [wr]
    have r9 : ∀ k, k ≠ 3 → M'.1 9 k = M.1 9 k := by intro k hk; rcases hM with rfl | rfl <;> simp [wr, hk]
    refine hQ M' ⟨fun k hk ht => ?_, fun v hv => ?_, fun y hy => ?_, ?_, ?_⟩ (fun q a b c => ?_) r9 ?_
    · rw [r10]; exact c1 k hk ht
    · rw [r11, sz]
      by_cases e : v = u
      · rw [if_pos e, if_pos e]; rfl
      · rw [if_neg e, if_neg e]; exact c2 v hv
    · rw [r12]
      show _ = nI (if y = (16 * z + u) / 16 then gSt g y - 1 else gSt g y)
      rw [ed]
      by_cases e : y = z
      · rw [if_pos e, if_pos e, e]
      · rw [if_neg e, if_neg e]; exact c3 y hy
    · rw [h3]
      exact sI_ext fun v _ => (td v).symm
    · rw [r9 4 (by decide)]; exact c5
    · rcases hM with rfl | rfl
      · rw [wr_ne _ c, wr_ne _ b]
      · rw [wr_ne _ a, wr_ne _ c, wr_ne _ b]
    · rcases hM with rfl | rfl <;> rfl
  have ez : (nI z).toNatClampNeg = z := nI_clamp (by omega)
  have eu : (nI u).toNatClampNeg = u := nI_clamp (by omega)
  have es : M.1 12 z - 1 = nI (gSt g z - 1) := by rw [c3 z hz]; exact nI_posS hs
  refine sg_G_put_9_0 M _ _ _ (fun c => absurd c e1) (fun _ _ => vp_in_nI hu (by decide)) (fun _ _ => vp_in_nI hz (by decide)) (fun _ _ c => ?_) (fun _ _ c => ?_) (fun _ c => absurd c e2)
  · rw [ez, eu, es]
    refine key _ (Or.inl rfl) ?_
    rw [bI_0] at c
    rw [wr_ne _ (by decide), wr_ne _ (by decide), c4, c]
    exact sI_ext fun v _ => by simp
  · rw [ez, eu, es, sI_one hu, c4, sI_or]
    rw [bI_0] at c
    have c' : t = true := by simpa using c
    have ex : sI (fun k => ((szAt g k).isSome && gTd g k) || decide (k = u)) = sI (fun v => ((szAt g v).isSome && gTd g v) || (decide (v = u) && t)) := sI_ext fun v _ => by rw [c']; simp
    rw [ex]
    exact key _ (Or.inr rfl) (by simp [wr])
theorem wx_take {B : Nat} {p : Pl} {g : Gd} {M : Mem} {z u : Nat} {Q : Option Value → Mem → Prop} (hg : WfG B p g) (h : szAt g u = some z) (hc : RCx 9 p g M)
    (hQ : ∀ M', RCx 9 p (rmv (16 * z + u) g) M' → (∀ q, q ≠ 9 → q ≠ 11 → q ≠ 12 → M'.1 q = M.1 q) → (∀ k, k ≠ 3 → M'.1 9 k = M.1 9 k) → M'.2 = M.2 → Q none M') : WX mi_G_take 3 Q 0 [some (.ref 9), some (.int (nI u)), none] [] M := by
  obtain ⟨c1, c2, c3, c4, c5⟩ := hc
  obtain ⟨hu, hz, h3, h4, h5⟩ := szAt_some hg h
  have em : (16 * z + u) % 16 = u := by omega
  have ed : (16 * z + u) / 16 = z := by omega
  have ez : (nI z).toNatClampNeg = z := nI_clamp (by omega)
  have eu : (nI u).toNatClampNeg = u := nI_clamp (by omega)
  have e0 : M.1 11 (nI u).toNatClampNeg = nI z := by rw [eu, c2 u hu, h]; rfl
  have e1 : ¬ z_C_isSize (nI z) = 0 := by rw [size_1 z hz]; decide
  have sz : ∀ v, szAt (rmv (16 * z + u) g) v = if v = u then none else szAt g v := fun v => by rw [szAt_rmv hg (by rw [em]; exact h3), em]
  have td : ∀ v, ((szAt (rmv (16 * z + u) g) v).isSome && gTd (rmv (16 * z + u) g) v) = (((szAt g v).isSome && gTd g v) && !decide (v = u)) := by
    intro v
    rw [sz]
    show (_ && (if inS (16 * z + u) v = true then false else gTd g v)) = _
    by_cases e : v = u
    · rw [if_pos e]; simp [e]
    · rw [if_neg e]
      by_cases hi : inS (16 * z + u) v = true
      · have : szAt g v = none := by
          unfold szAt; rw [(h5 v hi).2.2]; dsimp only; rw [em, if_neg (fun q => e q.symm)]
        rw [this]; simp
      · rw [if_neg hi]; simp [e]
  have e2 : ¬ z_C_isNumber (nI u) = 0 := by rw [num_1 u hu]; decide
  refine sg_G_take_9_0 M _ (vp_in_nI hu (by decide)) (fun c => absurd c (by rw [e0]; exact e1)) (fun _ _ => vp_in_nI hu (by decide)) (fun _ _ => by rw [e0]; exact vp_in_nI hz (by decide)) (fun _ _ => ?_) (fun _ c => absurd c e2)
  rw [e0, ez, eu, c3 z hz, nI_1, sI_one hu, c4, sI_diff]
  refine hQ _ ⟨fun k hk ht => ?_, fun v hv => ?_, fun y hy => ?_, ?_, ?_⟩ (fun q a b c => by rw [wr_ne _ a, wr_ne _ c, wr_ne _ b]) (fun k hk => by simp [wr, hk]) rfl
  · rw [wr_ne _ (by decide), wr_ne _ (by decide), wr_ne _ (by decide)]; exact c1 k hk ht
  · rw [wr_ne _ (by decide), wr_ne _ (by decide), upd_row, sz]
    by_cases e : v = u
    · rw [if_pos e, if_pos e]; rfl
    · rw [if_neg e, if_neg e]; exact c2 v hv
  · rw [wr_ne _ (by decide), upd_row, wr_ne _ (by decide)]
    show _ = nI (if y = (16 * z + u) / 16 then gSt g y + 1 else gSt g y)
    rw [ed]
    by_cases e : y = z
    · rw [if_pos e, if_pos e, e]
    · rw [if_neg e, if_neg e]; exact c3 y hy
  · rw [upd_row, if_pos rfl]
    exact sI_ext fun v _ => (td v).symm
  · rw [upd_row, if_neg (by decide), wr_ne _ (by decide), wr_ne _ (by decide)]; exact c5
/-- the model's row after a slab came -/
theorem blk_put {p : Pl} {g : Gd} {z u : Nat} {t : Bool} {f f' : Nat → Int32} (hz : z < 4) (hu : u < 16) (hs : 0 < gSt g z) (h : blk 0 p g f) (h1 : ∀ k, k < 16 → f' k = f k) (h2 : ∀ k, k < 16 → f' (16 + k) = if inS (16 * z + u) k = true then nI (16 * z + u) else f (16 + k))
    (h3 : ∀ y, y < 4 → f' (32 + y) = if y = z then f (32 + y) - 1 else f (32 + y)) (h4 : f' 36 = sI (fun k => if inS (16 * z + u) k = true then t else gTd g k)) (h5 : f' 37 = f 37) : blk 0 p (putc (16 * z + u) t g) f' := by
  obtain ⟨b1, b2, b3, b4, b5⟩ := h
  simp only [Nat.zero_add] at b1 b2 b3 b4 b5
  refine ⟨fun k hk ht => ?_, fun k hk => ?_, fun y hy => ?_, ?_, ?_⟩
  · rw [Nat.zero_add, h1 k hk]; exact b1 k hk ht
  · rw [Nat.zero_add, h2 k hk]
    show _ = eSl (if inS (16 * z + u) k = true then some (16 * z + u) else gSl g k)
    by_cases e : inS (16 * z + u) k = true
    · rw [if_pos e, if_pos e]; rfl
    · rw [if_neg e, if_neg e]; exact b2 k hk
  · rw [Nat.zero_add, h3 y hy]
    show _ = nI (if y = (16 * z + u) / 16 then gSt g y - 1 else gSt g y)
    rw [show (16 * z + u) / 16 = z by omega, b3 y hy]
    by_cases e : y = z
    · rw [if_pos e, if_pos e, e]; exact nI_posS hs
    · rw [if_neg e, if_neg e]
  · rw [Nat.zero_add, h4]; rfl
  · rw [Nat.zero_add, h5]; exact b5
theorem blk_rmv {p : Pl} {g : Gd} {z u : Nat} {f f' : Nat → Int32} (hz : z < 4) (hu : u < 16) (h : blk 0 p g f) (h1 : ∀ k, k < 16 → f' k = f k) (h2 : ∀ k, k < 16 → f' (16 + k) = if inS (16 * z + u) k = true then -9 else f (16 + k))
    (h3 : ∀ y, y < 4 → f' (32 + y) = if y = z then f (32 + y) + 1 else f (32 + y)) (h4 : f' 36 = sI (fun k => if inS (16 * z + u) k = true then false else gTd g k)) (h5 : f' 37 = f 37) : blk 0 p (rmv (16 * z + u) g) f' := by
  obtain ⟨b1, b2, b3, b4, b5⟩ := h
  simp only [Nat.zero_add] at b1 b2 b3 b4 b5
  refine ⟨fun k hk ht => ?_, fun k hk => ?_, fun y hy => ?_, ?_, ?_⟩
  · rw [Nat.zero_add, h1 k hk]; exact b1 k hk ht
  · rw [Nat.zero_add, h2 k hk]
    show _ = eSl (if inS (16 * z + u) k = true then none else gSl g k)
    by_cases e : inS (16 * z + u) k = true
    · rw [if_pos e, if_pos e]; rfl
    · rw [if_neg e, if_neg e]; exact b2 k hk
  · rw [Nat.zero_add, h3 y hy]
    show _ = nI (if y = (16 * z + u) / 16 then gSt g y + 1 else gSt g y)
    rw [show (16 * z + u) / 16 = z by omega, b3 y hy]
    by_cases e : y = z
    · rw [if_pos e, if_pos e]; exact nI_1 _
    · rw [if_neg e, if_neg e]
  · rw [Nat.zero_add, h4]; rfl
  · rw [Nat.zero_add, h5]; exact b5
