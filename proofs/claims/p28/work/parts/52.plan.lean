/-! ===== plan: the search in full, and what may be left out of it ===== -/
abbrev Acc : Type := Nat × (Nat → Option Nat)
def szC (z : Nat) : Nat := if z = 0 then 4 else if z < 3 then 2 else 1
def upT (T : Nat → Option Nat) (k z : Nat) : Nat → Option Nat := fun j => if j = k then some z else T j
def frN (p : Pl) (g : Gd) : Nat := cntB (fre p g) 16
def frL (p : Pl) (g : Gd) : Nat := lwN (fre p g) 16
def leafA (g : Gd) (T : Nat → Option Nat) (n : Nat) (a : Acc) : Acc := if n < a.1 ∧ cntB (crs g) 16 = 0 then (n, T) else a
def okZ (p : Pl) (g : Gd) (z : Nat) : Prop := 0 < gSt g z ∧ lyO p g (16 * z + frL p g)
noncomputable def chd (p : Pl) (rc : Gd → (Nat → Option Nat) → Nat → Acc → Acc) (g : Gd) (T : Nat → Option Nat) (n z : Nat) (a : Acc) : Acc := @ite _ (okZ p g z) (Classical.propDecidable _) (rc (putc (16 * z + frL p g) true g) (upT T (frL p g) z) (n + 1) a) a
def kdN (c : Nat → Acc → Acc) : Nat → Acc → Acc
  | 0, a => a
  | m + 1, a => kdN c m (c (3 - m) a)
noncomputable def plN (p : Pl) : Nat → Gd → (Nat → Option Nat) → Nat → Acc → Acc
  | 0, g, T, n, a => if frN p g = 0 then leafA g T n a else a
  | f + 1, g, T, n, a => if frN p g = 0 then leafA g T n a else kdN (chd p (plN p f) g T n) 4 a
theorem chd_t {p : Pl} {rc : Gd → (Nat → Option Nat) → Nat → Acc → Acc} {g : Gd} {T : Nat → Option Nat} {n z : Nat} {a : Acc} (h : okZ p g z) : chd p rc g T n z a = rc (putc (16 * z + frL p g) true g) (upT T (frL p g) z) (n + 1) a := if_pos h
theorem chd_f {p : Pl} {rc : Gd → (Nat → Option Nat) → Nat → Acc → Acc} {g : Gd} {T : Nat → Option Nat} {n z : Nat} {a : Acc} (h : ¬ okZ p g z) : chd p rc g T n z a = a := if_neg h
theorem cnt_0 {f : Nat → Bool} : ∀ n, cntB f n = 0 ↔ ∀ k, k < n → f k = false
  | 0 => ⟨fun _ k hk => absurd hk (Nat.not_lt_zero k), fun _ => rfl⟩
  | n + 1 => by
    have e : cntB f (n + 1) = cntB f n + t1 f n := rfl
    rw [e, Nat.add_eq_zero_iff, cnt_0 n]
    unfold t1
    constructor
    · rintro ⟨h1, h2⟩ k hk
      by_cases q : k = n
      · rw [q]
        cases c : f n with
        | false => rfl
        | true => rw [c] at h2; exact absurd h2 (by decide)
      · exact h1 k (by omega)
    · intro h
      exact ⟨fun k hk => h k (by omega), by rw [h n (by omega)]; rfl⟩
theorem cnt_split {f h : Nat → Bool} : ∀ n, (∀ k, k < n → h k = true → f k = true) → cntB (fun k => f k && !h k) n + cntB h n = cntB f n
  | 0, _ => rfl
  | n + 1, hh => by
    have ih := cnt_split n (fun k hk => hh k (by omega))
    have e1 : cntB (fun k => f k && !h k) (n + 1) = cntB (fun k => f k && !h k) n + t1 (fun k => f k && !h k) n := rfl
    have e2 : cntB h (n + 1) = cntB h n + t1 h n := rfl
    have e3 : cntB f (n + 1) = cntB f n + t1 f n := rfl
    have e4 : t1 (fun k => f k && !h k) n + t1 h n = t1 f n := by
      have key : ∀ a b : Bool, (b = true → a = true) → (if (a && !b) = true then 1 else 0) + (if b = true then 1 else 0) = (if a = true then 1 else 0) := by decide
      exact key (f n) (h n) (hh n (by omega))
    omega
theorem inS_cnt : ∀ z, z < 4 → ∀ u, u < 16 → fitD (16 * z + u) = true → cntB (inS (16 * z + u)) 16 = szC z := by decide +kernel
theorem fre_putc {p : Pl} {g : Gd} {c : Nat} {t : Bool} (k : Nat) : fre p (putc c t g) k = (fre p g k && !inS c k) := by
  unfold fre
  show (layb p k && !(if inS c k = true then some c else gSl g k).isSome) = _
  cases q : inS c k with
  | true => rw [if_pos rfl]; simp
  | false => rw [if_neg (by decide)]; simp
theorem frN_putc {p : Pl} {g : Gd} {z u : Nat} {t : Bool} (hz : z < 4) (hu : u < 16) (h : lyO p g (16 * z + u)) : frN p (putc (16 * z + u) t g) + szC z = frN p g := by
  unfold frN
  rw [cntB_congr 16 (fun k _ => fre_putc k), ← inS_cnt z hz u hu (fitD_of fun j hj => (h.2 j hj).1)]
  exact cnt_split 16 (fun k _ hk => fre_iff.mpr (h.2 k hk).2)
theorem frL_of {p : Pl} {g : Gd} (h : ¬ frN p g = 0) : frL p g < 16 ∧ fre p g (frL p g) = true ∧ ∀ j, j < frL p g → fre p g j = false := by
  refine lwN_of (Decidable.byContradiction (fun c => h ((cnt_0 16).mpr (fun k hk => ?_))))
  cases q : fre p g k with
  | false => rfl
  | true => exact absurd ⟨k, hk, q⟩ c
def lstN (s0 s1 s2 s3 c : Nat) : Nat := if s3 < (c - 4 * min s0 (c / 4)) - 2 * min (s1 + s2) ((c - 4 * min s0 (c / 4)) / 2) then 99 else min s0 (c / 4) + min (s1 + s2) ((c - 4 * min s0 (c / 4)) / 2) + ((c - 4 * min s0 (c / 4)) - 2 * min (s1 + s2) ((c - 4 * min s0 (c / 4)) / 2))
theorem lst_0 (s0 s1 s2 s3 : Nat) : lstN s0 s1 s2 s3 0 = 0 := by
  unfold lstN
  split <;> omega
theorem lst_1 {s0 s1 s2 s3 c : Nat} (h : 0 < c) : 1 ≤ lstN s0 s1 s2 s3 c := by
  unfold lstN
  split <;> omega
theorem lst_le {s0 s1 s2 s3 c : Nat} (h : c ≤ 16) : lstN s0 s1 s2 s3 c ≤ 99 := by
  unfold lstN
  split <;> omega
theorem lst_z0 {s0 s1 s2 s3 c : Nat} (hc : c ≤ 16) (h : 0 < s0) (h4 : 4 ≤ c) : lstN s0 s1 s2 s3 c ≤ 1 + lstN (s0 - 1) s1 s2 s3 (c - 4) := by
  have e1 : min (s0 - 1) ((c - 4) / 4) = min s0 (c / 4) - 1 := by omega
  have e2 : 1 ≤ min s0 (c / 4) := by omega
  have e3 : 4 * min s0 (c / 4) ≤ c := by omega
  unfold lstN
  rw [e1, show c - 4 - 4 * (min s0 (c / 4) - 1) = c - 4 * min s0 (c / 4) by omega]
  split <;> omega
theorem lst_z12 {s0 s1 s2 s3 m c : Nat} (hc : c ≤ 16) (h : s1 + s2 = m + 1) (h4 : 2 ≤ c) : lstN s0 s1 s2 s3 c ≤ 1 + lstN s0 m 0 s3 (c - 2) := by
  unfold lstN
  rw [h, Nat.add_zero]
  split <;> split <;> omega
theorem lst_s12 {s0 s1 s2 s3 m c : Nat} (h : s1 + s2 = m) : lstN s0 s1 s2 s3 c = lstN s0 m 0 s3 c := by
  unfold lstN
  rw [h, Nat.add_zero]
theorem lst_z3 {s0 s1 s2 s3 c : Nat} (hc : c ≤ 16) (h : 0 < s3) (h4 : 1 ≤ c) : lstN s0 s1 s2 s3 c ≤ 1 + lstN s0 s1 s2 (s3 - 1) (c - 1) := by
  unfold lstN
  split <;> split <;> omega
/-- how many slabs the rest needs at least -/
def lsG (p : Pl) (g : Gd) : Nat := lstN (gSt g 0) (gSt g 1) (gSt g 2) (gSt g 3) (frN p g)
theorem frN_le (p : Pl) (g : Gd) : frN p g ≤ 16 := cntB_le _ 16
theorem ls_step {p : Pl} {g : Gd} {z u : Nat} {t : Bool} (hz : z < 4) (hu : u < 16) (h : lyO p g (16 * z + u)) (hs : 0 < gSt g z) : lsG p g ≤ 1 + lsG p (putc (16 * z + u) t g) := by
  have e := frN_putc (t := t) hz hu h
  have hc := frN_le p g
  have st : ∀ y, gSt (putc (16 * z + u) t g) y = if y = z then gSt g y - 1 else gSt g y := fun y => by
    show (if y = (16 * z + u) / 16 then gSt g y - 1 else gSt g y) = _
    rw [show (16 * z + u) / 16 = z by omega]
  have s0 := st 0
  have s1 := st 1
  have s2 := st 2
  have s3 := st 3
  unfold lsG
  have hz' : z = 0 ∨ z = 1 ∨ z = 2 ∨ z = 3 := by omega
  rcases hz' with rfl | rfl | rfl | rfl
  · rw [if_pos rfl] at s0
    rw [if_neg (by decide)] at s1 s2 s3
    rw [s0, s1, s2, s3, show frN p (putc (16 * 0 + u) t g) = frN p g - 4 by have : szC 0 = 4 := rfl; omega]
    exact lst_z0 hc hs (by have : szC 0 = 4 := rfl; omega)
  · rw [if_pos rfl] at s1
    rw [if_neg (by decide)] at s0 s2 s3
    rw [s0, s1, s2, s3, show frN p (putc (16 * 1 + u) t g) = frN p g - 2 by have : szC 1 = 2 := rfl; omega, lst_s12 (m := gSt g 1 + gSt g 2 - 1) (s1 := gSt g 1 - 1) (by omega)]
    exact lst_z12 hc (by omega) (by have : szC 1 = 2 := rfl; omega)
  · rw [if_pos rfl] at s2
    rw [if_neg (by decide)] at s0 s1 s3
    rw [s0, s1, s2, s3, show frN p (putc (16 * 2 + u) t g) = frN p g - 2 by have : szC 2 = 2 := rfl; omega, lst_s12 (m := gSt g 1 + gSt g 2 - 1) (s2 := gSt g 2 - 1) (by omega)]
    exact lst_z12 hc (by omega) (by have : szC 2 = 2 := rfl; omega)
  · rw [if_pos rfl] at s3
    rw [if_neg (by decide)] at s0 s1 s2
    rw [s0, s1, s2, s3, show frN p (putc (16 * 3 + u) t g) = frN p g - 1 by have : szC 3 = 1 := rfl; omega]
    exact lst_z3 hc hs (by have : szC 3 = 1 := rfl; omega)
theorem kdN_id {c : Nat → Acc → Acc} {a : Acc} (h : ∀ z, z < 4 → c z a = a) : ∀ m, kdN c m a = a
  | 0 => rfl
  | m + 1 => by
    show kdN c m (c (3 - m) a) = a
    rw [h (3 - m) (by omega)]
    exact kdN_id h m
theorem pl_le {p : Pl} : ∀ (f : Nat) (g : Gd) (T : Nat → Option Nat) (n : Nat) (a : Acc), a.1 ≤ n + lsG p g → plN p f g T n a = a := by
  have lf : ∀ (g : Gd) (T : Nat → Option Nat) (n : Nat) (a : Acc), frN p g = 0 → a.1 ≤ n + lsG p g → leafA g T n a = a := by
    intro g T n a h0 h
    unfold lsG at h
    rw [h0, lst_0] at h
    exact if_neg (fun c => by omega)
  intro f
  induction f with
  | zero =>
    intro g T n a h
    show (if frN p g = 0 then leafA g T n a else a) = a
    by_cases q : frN p g = 0
    · rw [if_pos q]; exact lf g T n a q h
    · rw [if_neg q]
  | succ f ih =>
    intro g T n a h
    show (if frN p g = 0 then leafA g T n a else kdN (chd p (plN p f) g T n) 4 a) = a
    by_cases q : frN p g = 0
    · rw [if_pos q]; exact lf g T n a q h
    · rw [if_neg q]
      refine kdN_id (fun z hz => ?_) 4
      by_cases c : okZ p g z
      · rw [chd_t c]
        refine ih _ _ _ _ ?_
        have := ls_step (t := true) hz (frL_of q).1 c.2 c.1
        omega
      · exact chd_f c
theorem kd_le {p : Pl} {f : Nat} {g : Gd} {T : Nat → Option Nat} {n : Nat} {a : Acc} (q : ¬ frN p g = 0) (h : a.1 ≤ n + lsG p g) (m : Nat) : kdN (chd p (plN p f) g T n) m a = a := by
  refine kdN_id (fun z hz => ?_) m
  by_cases c : okZ p g z
  · rw [chd_t c]
    refine pl_le _ _ _ _ _ ?_
    have := ls_step (t := true) hz (frL_of q).1 c.2 c.1
    omega
  · exact chd_f c
theorem prt_putc {p : Pl} {g : Gd} {c : Nat} {t : Bool} (h : lyO p g c) {a b : Nat} (hp : prt g a b = true) : prt (putc c t g) a b = true := by
  have e : ∀ k, (gSl g k).isSome = true → gSl (putc c t g) k = gSl g k := by
    intro k hk
    show (if inS c k = true then some c else gSl g k) = gSl g k
    refine if_neg (fun q => ?_)
    rw [(h.2 k q).2.2] at hk
    cases hk
  have hp' := hp
  unfold prt at hp'
  simp only [Bool.and_eq_true] at hp'
  unfold prt
  rw [e a hp'.1.1, e b hp'.1.2]
  exact hp
theorem crs_putc {p : Pl} {g : Gd} {c : Nat} {t : Bool} (h : lyO p g c) {k : Nat} (hk : crs g k = true) : crs (putc c t g) k = true := by
  unfold crs at hk ⊢
  simp only [Bool.and_eq_true] at hk ⊢
  obtain ⟨h1, ⟨⟨⟨⟨h2, h3⟩, h4⟩, h5⟩, h6⟩, h7⟩ := hk
  exact ⟨h1, ⟨⟨⟨⟨prt_putc h h2, prt_putc h h3⟩, prt_putc h h4⟩, prt_putc h h5⟩, prt_putc h h6⟩, prt_putc h h7⟩
theorem crsN_putc {p : Pl} {g : Gd} {c : Nat} {t : Bool} (h : lyO p g c) (hk : ¬ cntB (crs g) 16 = 0) : ¬ cntB (crs (putc c t g)) 16 = 0 := by
  intro q
  refine hk ((cnt_0 16).mpr (fun k hk => ?_))
  have := (cnt_0 16).mp q k hk
  cases r : crs g k with
  | false => rfl
  | true => rw [crs_putc h r] at this; cases this
theorem pl_cross {p : Pl} : ∀ (f : Nat) (g : Gd) (T : Nat → Option Nat) (n : Nat) (a : Acc), ¬ cntB (crs g) 16 = 0 → plN p f g T n a = a := by
  intro f
  induction f with
  | zero =>
    intro g T n a h
    show (if frN p g = 0 then leafA g T n a else a) = a
    by_cases q : frN p g = 0
    · rw [if_pos q]; exact if_neg (fun c => h c.2)
    · rw [if_neg q]
  | succ f ih =>
    intro g T n a h
    show (if frN p g = 0 then leafA g T n a else kdN (chd p (plN p f) g T n) 4 a) = a
    by_cases q : frN p g = 0
    · rw [if_pos q]; exact if_neg (fun c => h c.2)
    · rw [if_neg q]
      refine kdN_id (fun z hz => ?_) 4
      by_cases c : okZ p g z
      · rw [chd_t c]
        exact ih _ _ _ _ (crsN_putc c.2 h)
      · exact chd_f c
theorem pl_bd {p : Pl} : ∀ (f : Nat) (g : Gd) (T : Nat → Option Nat) (n : Nat) (a : Acc), (plN p f g T n a).1 ≤ a.1 := by
  have lf : ∀ (g : Gd) (T : Nat → Option Nat) (n : Nat) (a : Acc), (leafA g T n a).1 ≤ a.1 := by
    intro g T n a
    unfold leafA
    split
    · next h => exact Nat.le_of_lt h.1
    · exact Nat.le_refl _
  have kd : ∀ (c : Nat → Acc → Acc), (∀ z a, (c z a).1 ≤ a.1) → ∀ m a, (kdN c m a).1 ≤ a.1 := by
    intro c hc m
    induction m with
    | zero => intro a; exact Nat.le_refl _
    | succ m ih => intro a; exact Nat.le_trans (ih _) (hc _ _)
  intro f
  induction f with
  | zero =>
    intro g T n a
    show (if frN p g = 0 then leafA g T n a else a).1 ≤ a.1
    by_cases q : frN p g = 0
    · rw [if_pos q]; exact lf g T n a
    · rw [if_neg q]; exact Nat.le_refl _
  | succ f ih =>
    intro g T n a
    show (if frN p g = 0 then leafA g T n a else kdN (chd p (plN p f) g T n) 4 a).1 ≤ a.1
    by_cases q : frN p g = 0
    · rw [if_pos q]; exact lf g T n a
    · rw [if_neg q]
      refine kd _ (fun z a => ?_) 4 a
      by_cases c : okZ p g z
      · rw [chd_t c]; exact ih _ _ _ _
      · rw [chd_f c]; exact Nat.le_refl _
/-- the sets that the class keeps beside the slabs -/
theorem jn_put {p : Pl} {g : Gd} {z u : Nat} {t : Bool} (hz : z < 4) (hu : u < 16) (h : lyO p g (16 * z + u)) (i k : Nat) : jnT i (putc (16 * z + u) t g) 16 k = (jnT i g 16 k || inT i (16 * z + u) k) := by
  have em : (16 * z + u) % 16 = u := by omega
  have ed : (16 * z + u) / 16 = z := by omega
  have hun : szAt g u = none := by
    have := (h.2 u (by have := inS_self (16 * z + u) (by omega); rw [em] at this; exact this)).2.2
    unfold szAt
    rw [this]
  have e : ∀ v, jnA i (putc (16 * z + u) t g) v k = if v = u then inT i (16 * z + u) k else jnA i g v k := by
    intro v
    unfold jnA
    rw [szAt_putc h, em, ed]
    by_cases q : v = u
    · rw [if_pos q, if_pos q, q]
    · rw [if_neg q, if_neg q]
  have eu : jnA i g u k = false := by unfold jnA; rw [hun]
  unfold jnT
  rw [Bool.eq_iff_iff, Bool.or_eq_true, List.any_eq_true, List.any_eq_true]
  constructor
  · rintro ⟨v, hv, hv2⟩
    rw [e] at hv2
    by_cases q : v = u
    · rw [if_pos q] at hv2; exact Or.inr hv2
    · rw [if_neg q] at hv2; exact Or.inl ⟨v, hv, hv2⟩
  · rintro (⟨v, hv, hv2⟩ | h2)
    · refine ⟨v, hv, ?_⟩
      rw [e, if_neg (fun q => by rw [q, eu] at hv2; cases hv2)]
      exact hv2
    · exact ⟨u, List.mem_range.mpr hu, by rw [e, if_pos rfl]; exact h2⟩
theorem sets_put {p : Pl} {g : Gd} {z u : Nat} {t : Bool} (hz : z < 4) (hu : u < 16) (h : lyO p g (16 * z + u)) :
    sI (fun k => (gSl g k).isSome) ||| z_C_bitsAt_100 (nI z) (nI u) = sI (fun k => (gSl (putc (16 * z + u) t g) k).isSome) ∧ sI (jnT 2 g 16) ||| z_C_bitsAt_102 (nI z) (nI u) = sI (jnT 2 (putc (16 * z + u) t g) 16) ∧ sI (jnT 3 g 16) ||| z_C_bitsAt_103 (nI z) (nI u) = sI (jnT 3 (putc (16 * z + u) t g) 16) := by
  have hf := fitD_of (fun j hj => (h.2 j hj).1)
  refine ⟨?_, ?_, ?_⟩
  · rw [bitsAt_0 z hz u hu hf, sI_or]
    refine sI_ext fun k _ => ?_
    show _ = (if inS (16 * z + u) k = true then some (16 * z + u) else gSl g k).isSome
    rw [inT_0]
    cases inS (16 * z + u) k with
    | true => rw [if_pos rfl]; simp
    | false => rw [if_neg (by decide)]; simp
  · rw [bitsAt_2 z hz u hu hf, sI_or]
    exact sI_ext fun k _ => (jn_put hz hu h 2 k).symm
  · rw [bitsAt_3 z hz u hu hf, sI_or]
    exact sI_ext fun k _ => (jn_put hz hu h 3 k).symm
