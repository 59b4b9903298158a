/-! ===== where a slab may lie: the model's cells one by one, the class's bits ===== -/
def hgt (z : Nat) : Nat := if z % 2 = 0 then 2 else 1
def inW (z j : Nat) : Bool := decide (j % 2 < wdt z) && decide (j / 2 < hgt z)
def cJ (u j : Nat) : Nat := u + 4 * (j / 2) + j % 2
def aJ (p : Pl) (u j : Nat) : Bool := decide (u % 4 + j % 2 < pW p) && decide (u / 4 + j / 2 < pR p)
theorem x_J : ∀ u, u < 16 → ∀ j, j < 4 → rem (nI u) 4 + rem (nI j) 2 = nI (u % 4 + j % 2) := by decide +kernel
theorem y_J : ∀ u, u < 16 → ∀ j, j < 4 → nI u / 4 + nI j / 2 = nI (u / 4 + j / 2) := by decide +kernel
theorem okc_n {p : Pl} {a b : Nat} (ha : a < 100) (hb : b < 100) : okc p (nI a) (nI b) = (decide (a < pW p) && decide (b < pR p)) := by
  unfold okc
  rw [nI_toInt (by omega), nI_toInt (by omega), Bool.eq_iff_iff]
  simp only [Bool.and_eq_true, decide_eq_true_eq]
  omega
def accJ (z u n k : Nat) : Bool := (List.range n).any (fun j => inW z j && decide (k = cJ u j))
theorem accJ_s (z u n k : Nat) : accJ z u (n + 1) k = (accJ z u n k || (inW z n && decide (k = cJ u n))) := by
  unfold accJ
  rw [List.range_succ, List.any_append]
  simp
def ath (p : Pl) (z u : Nat) : Bool := (List.range 4).all (fun j => !inW z j || aJ p u j)
theorem ath_iff {p : Pl} {z u : Nat} : ath p z u = true ↔ ∀ j, j < 4 → inW z j = true → aJ p u j = true := by
  unfold ath
  rw [List.all_eq_true]
  constructor
  · intro h j hj hw
    have := h j (List.mem_range.mpr hj)
    rw [hw] at this
    simpa using this
  · intro h j hj
    cases hw : inW z j with
    | false => rfl
    | true => rw [h j (List.mem_range.mp hj) hw]; rfl
theorem acc_inS : ∀ z, z < 4 → ∀ u, u < 16 → u % 4 + wdt z ≤ 4 → ∀ k, k < 22 → accJ z u 4 k = inS (16 * z + u) k := by decide +kernel
theorem shp_lt (z : Nat) : shp z < 64 := by
  unfold shp
  match z with
  | 0 => decide
  | 1 => decide
  | 2 => decide
  | 3 => decide
  | n + 4 => exact (by decide : 0 < 64)
theorem inS_lt {c k : Nat} (h : inS c k = true) : k < 22 ∧ c % 16 ≤ k := by
  unfold inS at h
  simp only [Bool.and_eq_true, decide_eq_true_eq] at h
  refine ⟨Decidable.byContradiction (fun q => ?_), h.1⟩
  have : (shp (c / 16)).testBit (k - c % 16) = false := Nat.testBit_lt_two_pow (Nat.lt_of_lt_of_le (shp_lt _) (Nat.pow_le_pow_right (n := 2) (i := 6) (by decide) (by omega)))
  rw [this] at h
  cases h.2
theorem ath_fit {p : Pl} {z u : Nat} (hp : WfP p) (hz : z < 4) (hu : u < 16) : ath p z u = true ↔ (fitR (16 * z + u) ∧ ∀ k, inS (16 * z + u) k = true → k < 16 ∧ thr p k = true) := by
  have h4 := hp.1
  have h4' := hp.2.1
  have em : (16 * z + u) % 16 = u := by omega
  have ed : (16 * z + u) / 16 = z := by omega
  rw [ath_iff]
  constructor
  · intro h
    have hw : u % 4 + wdt z ≤ 4 := by
      have hwz : wdt z = 1 ∨ wdt z = 2 := by unfold wdt; split <;> omega
      have := h (wdt z - 1) (by omega) (by unfold inW; rw [decide_eq_true (by omega), decide_eq_true (by unfold hgt; split <;> omega)]; rfl)
      unfold aJ at this
      simp only [Bool.and_eq_true, decide_eq_true_eq] at this
      omega
    refine ⟨⟨by omega, by rw [em, ed]; exact hw⟩, fun k hk => ?_⟩
    have h22 := (inS_lt hk).1
    rw [← acc_inS z hz u hu hw k h22] at hk
    unfold accJ at hk
    obtain ⟨j, hj, hj2⟩ := List.any_eq_true.mp hk
    simp only [Bool.and_eq_true, decide_eq_true_eq] at hj2
    have hj := List.mem_range.mp hj
    have ha := h j hj hj2.1
    unfold aJ at ha
    simp only [Bool.and_eq_true, decide_eq_true_eq] at ha
    have e := hj2.2
    unfold cJ at e
    refine ⟨by omega, ?_⟩
    unfold thr
    simp only [Bool.and_eq_true, decide_eq_true_eq]
    omega
  · rintro ⟨⟨-, h2⟩, h3⟩ j hj hin
    rw [em, ed] at h2
    have hk : accJ z u 4 (cJ u j) = true := by
      unfold accJ
      exact List.any_eq_true.mpr ⟨j, List.mem_range.mpr hj, by rw [hin]; simp⟩
    rw [acc_inS z hz u hu h2 _ (by unfold cJ; omega)] at hk
    have h5 := (h3 _ hk).2
    unfold thr at h5
    unfold inW at hin
    simp only [Bool.and_eq_true, decide_eq_true_eq] at h5 hin
    have hwz : wdt z = 1 ∨ wdt z = 2 := by unfold wdt; split <;> omega
    unfold cJ at h5
    unfold aJ
    simp only [Bool.and_eq_true, decide_eq_true_eq]
    omega
theorem acc_sI {p : Pl} {z u : Nat} (hp : WfP p) (hz : z < 4) (hu : u < 16) (h : ath p z u = true) : sI (accJ z u 4) = sI (inS (16 * z + u)) := by
  have h2 := ((ath_fit hp hz hu).mp h).1.2
  rw [show (16 * z + u) % 16 = u by omega, show (16 * z + u) / 16 = z by omega] at h2
  exact sI_ext fun k hk => acc_inS z hz u hu h2 k (by omega)
theorem sub_sI {x : Int32} {f : Nat → Bool} : x &&& (sI f ^^^ (-1)) = 0 ↔ ∀ i, i < 32 → bt x i = true → i < 16 ∧ f i = true := by
  constructor
  · intro h i hi hx
    have e : bt (x &&& (sI f ^^^ (-1))) i = bt 0 i := by rw [h]
    rw [b_and, b_xor, b_m1 i hi, b_0, bt_sI f hi, hx] at e
    simpa using e
  · intro h
    refine b_ext (fun i hi => ?_)
    rw [b_and, b_xor, b_m1 i hi, b_0, bt_sI f hi]
    cases hx : bt x i with
    | false => rfl
    | true => obtain ⟨h1, h2⟩ := h i hi hx; simp [h1, h2]
theorem bits_inS : ∀ z, z < 4 → ∀ u, u < 16 → ∀ i, i < 32 → bt (z_C_bitsAt_100 (nI z) (nI u)) i = inS (16 * z + u) i := by decide +kernel
theorem size_1 : ∀ z, z < 4 → z_C_isSize (nI z) = 1 := by decide +kernel
theorem wid_C : ∀ z, z < 4 → ∀ u, u < 16 → (4 < rem (nI u) 4 + stV 1 (nI z).toNatClampNeg ↔ 4 < u % 4 + wdt z) := by decide +kernel
/-- a slab may lie there: on free cells only -/
def lyO (p : Pl) (g : Gd) (c : Nat) : Prop := fitR c ∧ ∀ k, inS c k = true → k < 16 ∧ layb p k = true ∧ gSl g k = none
theorem fre_iff {p : Pl} {g : Gd} {k : Nat} : fre p g k = true ↔ layb p k = true ∧ gSl g k = none := by
  unfold fre
  cases gSl g k <;> cases layb p k <;> simp
theorem fits_C {p : Pl} {g : Gd} {z u : Nat} (hz : z < 4) (hu : u < 16) : ¬ z_C_fits (nI z) (nI u) (sI (fre p g)) = 0 ↔ lyO p g (16 * z + u) := by
  have e1 := size_1 z hz
  have e2 := wid_C z hz u hu
  unfold z_C_fits lyO fitR
  rw [e1, if_neg (by decide), if_neg (isNum_of_in (vp_in_nI hu (by decide))), show (16 * z + u) % 16 = u by omega, show (16 * z + u) / 16 = z by omega]
  by_cases h : 4 < u % 4 + wdt z
  · rw [if_pos (e2.mpr h)]
    constructor
    · intro q; exact absurd rfl q
    · rintro ⟨⟨_, q⟩, _⟩; omega
  · rw [if_neg (fun q => h (e2.mp q))]
    by_cases hb : (z_C_bitsAt_100 (nI z) (nI u)) &&& (sI (fre p g) ^^^ (-1)) = 0
    · rw [if_pos hb]
      have hb' := sub_sI.mp hb
      refine ⟨fun _ => ⟨⟨by omega, by omega⟩, fun k hk => ?_⟩, fun _ => by decide⟩
      have k22 := (inS_lt hk).1
      have := hb' k (by omega) (by rw [bits_inS z hz u hu k (by omega)]; exact hk)
      exact ⟨this.1, fre_iff.mp this.2⟩
    · rw [if_neg hb]
      refine ⟨fun q => absurd rfl q, fun q => absurd (sub_sI.mpr (fun i hi hx => ?_)) hb⟩
      rw [bits_inS z hz u hu i hi] at hx
      exact ⟨(q.2 i hx).1, fre_iff.mpr (q.2 i hx).2⟩
theorem layb_thr {p : Pl} {k : Nat} (h : layb p k = true) : thr p k = true := by
  unfold layb at h
  simp only [Bool.and_eq_true] at h
  exact h.1.1
theorem ath_ly {p : Pl} {g : Gd} {z u : Nat} (hp : WfP p) (hz : z < 4) (hu : u < 16) (h : lyO p g (16 * z + u)) : ath p z u = true := (ath_fit hp hz hu).mpr ⟨h.1, fun k hk => ⟨(h.2 k hk).1, layb_thr (h.2 k hk).2.1⟩⟩
theorem lays_M {p : Pl} {g : Gd} {z u : Nat} (hp : WfP p) (hz : z < 4) (hu : u < 16) : (ath p z u = true ∧ sI (inS (16 * z + u)) &&& (sI (fre p g) ^^^ (-1)) = 0) ↔ lyO p g (16 * z + u) := by
  constructor
  · rintro ⟨h1, h2⟩
    obtain ⟨h3, h4⟩ := (ath_fit hp hz hu).mp h1
    refine ⟨h3, fun k hk => ⟨(h4 k hk).1, ?_⟩⟩
    have h16 := (h4 k hk).1
    have := sub_sI.mp h2 k (by omega) (by rw [bt_sI _ (by omega), hk]; simpa using h16)
    exact fre_iff.mp this.2
  · intro h
    refine ⟨ath_ly hp hz hu h, sub_sI.mpr (fun i hi hx => ?_)⟩
    rw [bt_sI _ hi] at hx
    simp only [Bool.and_eq_true, decide_eq_true_eq] at hx
    exact ⟨hx.1, fre_iff.mpr (h.2 i hx.2).2⟩
theorem inS_ne {z u : Nat} (hz : z < 4) (hu : u < 16) : ¬ sI (inS (16 * z + u)) = 0 := by
  intro q
  have h1 := inS_self (16 * z + u) (by omega)
  rw [show (16 * z + u) % 16 = u by omega] at h1
  rw [sI_zero.mp q u hu] at h1
  cases h1
/-! ===== a slab comes, a slab goes ===== -/
theorem szAt_putc {p : Pl} {g : Gd} {c : Nat} {t : Bool} (h : lyO p g c) (v : Nat) : szAt (putc c t g) v = if v = c % 16 then some (c / 16) else szAt g v := by
  unfold szAt
  show (match (if inS c v = true then some c else gSl g v) with | some c => if c % 16 = v then some (c / 16) else none | none => none) = _
  by_cases hv : inS c v = true
  · rw [if_pos hv]
    dsimp only
    by_cases e : v = c % 16
    · rw [if_pos e, if_pos e.symm]
    · rw [if_neg e, if_neg (fun q => e q.symm), (h.2 v hv).2.2]
  · rw [if_neg hv]
    have e : v ≠ c % 16 := fun e => hv (by rw [e]; exact inS_self c h.1.1)
    rw [if_neg e]
    try rfl
theorem szAt_rmv {B : Nat} {p : Pl} {g : Gd} {c : Nat} (hg : WfG B p g) (h : gSl g (c % 16) = some c) (v : Nat) : szAt (rmv c g) v = if v = c % 16 then none else szAt g v := by
  unfold szAt
  show (match (if inS c v = true then none else gSl g v) with | some c => if c % 16 = v then some (c / 16) else none | none => none) = _
  obtain ⟨h1, h2, h3, h4⟩ := hg.2.1 _ _ h
  by_cases hv : inS c v = true
  · rw [if_pos hv]
    by_cases e : v = c % 16
    · rw [if_pos e]
    · rw [if_neg e, (h4 v hv).2.2]
      dsimp only
      rw [if_neg (fun q => e q.symm)]
  · rw [if_neg hv]
    have e : v ≠ c % 16 := fun e => hv (by rw [e]; exact h3)
    rw [if_neg e]
    try rfl
theorem wfg_putc {B : Nat} {p : Pl} {g : Gd} {c : Nat} {t : Bool} (hg : WfG B p g) (h : lyO p g c) : WfG B p (putc c t g) := by
  obtain ⟨g1, g2, g3, g4, g5, g6⟩ := hg
  have sl : ∀ k c', gSl (putc c t g) k = some c' → (inS c k = true ∧ c' = c) ∨ (inS c k = false ∧ gSl g k = some c' ∧ ∀ j, inS c' j = true → inS c j = false) := by
    intro k c' hk
    have hk : (if inS c k = true then some c else gSl g k) = some c' := hk
    cases hi : inS c k with
    | true => rw [if_pos hi] at hk; cases hk; exact Or.inl ⟨rfl, rfl⟩
    | false =>
      rw [if_neg (by rw [hi]; decide)] at hk
      refine Or.inr ⟨rfl, hk, fun j hj => ?_⟩
      cases hij : inS c j with
      | false => rfl
      | true =>
        have := ((g2 k c' hk).2.2.2 j hj).2.2
        rw [(h.2 j hij).2.2] at this
        cases this
  refine ⟨g1, fun k c' hk => ?_, fun k hk => ?_, fun k c' hk => ?_, g5, fun z hz => ?_⟩
  · rcases sl k c' hk with ⟨hi, rfl⟩ | ⟨hi, hk', hn⟩
    · refine ⟨(h.2 k hi).1, h.1, hi, fun j hj => ⟨(h.2 j hj).1, (h.2 j hj).2.1, ?_⟩⟩
      show (if inS c' j = true then some c' else gSl g j) = some c'
      rw [if_pos hj]
    · obtain ⟨a1, a2, a3, a4⟩ := g2 k c' hk'
      refine ⟨a1, a2, a3, fun j hj => ⟨(a4 j hj).1, (a4 j hj).2.1, ?_⟩⟩
      show (if inS c j = true then some c else gSl g j) = some c'
      rw [if_neg (by rw [hn j hj]; decide)]
      exact (a4 j hj).2.2
  · show ∃ c', (if inS c k = true then some c else gSl g k) = some c'
    by_cases hi : inS c k = true
    · rw [if_pos hi]; exact ⟨c, rfl⟩
    · rw [if_neg hi]
      have hk : (if inS c k = true then t else gTd g k) = true := hk
      rw [if_neg hi] at hk
      exact g3 k hk
  · show (if inS c k = true then t else gTd g k) = (if inS c (c' % 16) = true then t else gTd g (c' % 16))
    rcases sl k c' hk with ⟨hi, rfl⟩ | ⟨hi, hk', hn⟩
    · rw [if_pos hi, if_pos (inS_self c' h.1.1)]
    · rw [if_neg (by rw [hi]; decide), if_neg (by rw [hn _ (inS_self c' (g2 k c' hk').2.1.1)]; decide)]
      exact g4 k c' hk'
  · show (if z = c / 16 then gSt g z - 1 else gSt g z) ≤ B
    have := g6 z hz
    split <;> omega
theorem wfg_rmv {B : Nat} {p : Pl} {g : Gd} {c : Nat} (hg : WfG B p g) (h : gSl g (c % 16) = some c) : WfG (B + 1) p (rmv c g) := by
  obtain ⟨g1, g2, g3, g4, g5, g6⟩ := hg
  have sl : ∀ k c', gSl (rmv c g) k = some c' → inS c k = false ∧ gSl g k = some c' ∧ ∀ j, inS c' j = true → inS c j = false := by
    intro k c' hk
    have hk : (if inS c k = true then none else gSl g k) = some c' := hk
    cases hi : inS c k with
    | true => rw [if_pos hi] at hk; cases hk
    | false =>
      rw [if_neg (by rw [hi]; decide)] at hk
      refine ⟨rfl, hk, fun j hj => ?_⟩
      cases hij : inS c j with
      | false => rfl
      | true =>
        have e1 := ((g2 k c' hk).2.2.2 j hj).2.2
        have e2 := ((g2 _ c h).2.2.2 j hij).2.2
        rw [e1] at e2
        cases e2
        rw [(g2 k c hk).2.2.1] at hi
        cases hi
  refine ⟨g1, fun k c' hk => ?_, fun k hk => ?_, fun k c' hk => ?_, g5, fun z hz => ?_⟩
  · obtain ⟨hi, hk', hn⟩ := sl k c' hk
    obtain ⟨a1, a2, a3, a4⟩ := g2 k c' hk'
    refine ⟨a1, a2, a3, fun j hj => ⟨(a4 j hj).1, (a4 j hj).2.1, ?_⟩⟩
    show (if inS c j = true then none else gSl g j) = some c'
    rw [if_neg (by rw [hn j hj]; decide)]
    exact (a4 j hj).2.2
  · show ∃ c', (if inS c k = true then none else gSl g k) = some c'
    have hk : (if inS c k = true then false else gTd g k) = true := hk
    by_cases hi : inS c k = true
    · rw [if_pos hi] at hk; cases hk
    · rw [if_neg hi] at hk ⊢
      exact g3 k hk
  · show (if inS c k = true then false else gTd g k) = (if inS c (c' % 16) = true then false else gTd g (c' % 16))
    obtain ⟨hi, hk', hn⟩ := sl k c' hk
    rw [if_neg (by rw [hi]; decide), if_neg (by rw [hn _ (inS_self c' (g2 k c' hk').2.1.1)]; decide)]
    exact g4 k c' hk'
  · show (if z = c / 16 then gSt g z + 1 else gSt g z) ≤ B + 1
    have := g6 z hz
    split <;> omega
theorem gd_eq {a b : Gd} (h1 : gHt a = gHt b) (h2 : gSl a = gSl b) (h3 : gSt a = gSt b) (h4 : gTd a = gTd b) (h5 : gDy a = gDy b) : a = b := by
  obtain ⟨a1, a2, a3, a4, a5⟩ := a
  obtain ⟨b1, b2, b3, b4, b5⟩ := b
  cases h1; cases h2; cases h3; cases h4; cases h5
  rfl
theorem rmv_putc {B : Nat} {p : Pl} {g : Gd} {c : Nat} {t : Bool} (hg : WfG B p g) (h : lyO p g c) (hs : 0 < gSt g (c / 16)) : rmv c (putc c t g) = g := by
  refine gd_eq rfl ?_ ?_ ?_ rfl
  · funext k
    show (if inS c k = true then none else (if inS c k = true then some c else gSl g k)) = gSl g k
    by_cases hi : inS c k = true
    · rw [if_pos hi, (h.2 k hi).2.2]
    · rw [if_neg hi, if_neg hi]
  · funext z
    show (if z = c / 16 then (if z = c / 16 then gSt g z - 1 else gSt g z) + 1 else (if z = c / 16 then gSt g z - 1 else gSt g z)) = gSt g z
    by_cases e : z = c / 16
    · rw [if_pos e, if_pos e, e]; omega
    · rw [if_neg e, if_neg e]
  · funext k
    show (if inS c k = true then false else (if inS c k = true then t else gTd g k)) = gTd g k
    by_cases hi : inS c k = true
    · rw [if_pos hi, td_none hg (h.2 k hi).2.2]
    · rw [if_neg hi, if_neg hi]
theorem putc_rmv {B : Nat} {p : Pl} {g : Gd} {c : Nat} (hg : WfG B p g) (h : gSl g (c % 16) = some c) : putc c (gTd g (c % 16)) (rmv c g) = g := by
  obtain ⟨h1, h2, h3, h4⟩ := hg.2.1 _ _ h
  refine gd_eq rfl ?_ ?_ ?_ rfl
  · funext k
    show (if inS c k = true then some c else (if inS c k = true then none else gSl g k)) = gSl g k
    by_cases hi : inS c k = true
    · rw [if_pos hi, (h4 k hi).2.2]
    · rw [if_neg hi, if_neg hi]
  · funext z
    show (if z = c / 16 then (if z = c / 16 then gSt g z + 1 else gSt g z) - 1 else (if z = c / 16 then gSt g z + 1 else gSt g z)) = gSt g z
    by_cases e : z = c / 16
    · rw [if_pos e, if_pos e]; omega
    · rw [if_neg e, if_neg e]
  · funext k
    show (if inS c k = true then gTd g (c % 16) else (if inS c k = true then false else gTd g k)) = gTd g k
    by_cases hi : inS c k = true
    · rw [if_pos hi, hg.2.2.2.1 k c (h4 k hi).2.2]
    · rw [if_neg hi, if_neg hi]
theorem lay_ok {B : Nat} {p : Pl} {g : Gd} {z u : Nat} {t : Bool} (hz : z < 4) (hu : u < 16) (hg : WfG B p g) (h : lyO p g (16 * z + u)) (hs : 0 < gSt g z) : WfG B p (putc (16 * z + u) t g) ∧ eOk p (0, u, 0) (putc (16 * z + u) t g) ∧ g = und (0, u, 0) (putc (16 * z + u) t g) := by
  have e : szAt (putc (16 * z + u) t g) u = some z := by
    rw [szAt_putc h, if_pos (by omega)]
    congr 1
    omega
  refine ⟨wfg_putc hg h, ⟨hu, rfl, z, e⟩, ?_⟩
  show g = rmv (16 * ((szAt (putc (16 * z + u) t g) u).getD 0) + u) (putc (16 * z + u) t g)
  rw [e]
  exact (rmv_putc hg h (by rw [show (16 * z + u) / 16 = z by omega]; exact hs)).symm
theorem lift_ok {B : Nat} {p : Pl} {g : Gd} {z u : Nat} (hg : WfG B p g) (h : szAt g u = some z) : WfG (B + 1) p (rmv (16 * z + u) g) ∧ eOk p (1, u, z + (if gTd g u = true then 4 else 0)) (rmv (16 * z + u) g) ∧ g = und (1, u, z + (if gTd g u = true then 4 else 0)) (rmv (16 * z + u) g) := by
  obtain ⟨hu, hz, h3, h4, h5⟩ := szAt_some hg h
  have em : (16 * z + u) % 16 = u := by omega
  have ed : (16 * z + u) / 16 = z := by omega
  have hs : gSl g ((16 * z + u) % 16) = some (16 * z + u) := by rw [em]; exact h3
  have e4 : (z + (if gTd g u = true then 4 else 0)) % 4 = z := by split <;> omega
  have e5 : decide (4 ≤ z + (if gTd g u = true then 4 else 0)) = gTd g u := by
    cases gTd g u with
    | true => exact decide_eq_true (by rw [if_pos rfl]; omega)
    | false => exact decide_eq_false (by rw [if_neg (by decide)]; omega)
  refine ⟨wfg_rmv hg hs, ⟨hu, by show z + _ < 8; split <;> omega, ?_, ?_, ?_⟩, ?_⟩
  · show fitR (16 * ((z + (if gTd g u = true then 4 else 0)) % 4) + u)
    rw [e4]; exact h4
  · show 0 < (if (z + (if gTd g u = true then 4 else 0)) % 4 = (16 * z + u) / 16 then gSt g _ + 1 else _)
    rw [e4, ed, if_pos rfl]; exact Nat.succ_pos _
  · show ∀ j, inS (16 * ((z + (if gTd g u = true then 4 else 0)) % 4) + u) j = true → _
    rw [e4]
    intro j hj
    refine ⟨(h5 j hj).1, (h5 j hj).2.1, ?_⟩
    show (if inS (16 * z + u) j = true then none else gSl g j) = none
    rw [if_pos hj]
  · show g = putc (16 * ((z + (if gTd g u = true then 4 else 0)) % 4) + u) (decide (4 ≤ z + (if gTd g u = true then 4 else 0))) (rmv (16 * z + u) g)
    rw [e4, e5]
    have := putc_rmv hg hs
    rw [em] at this
    exact this.symm
