/-! ===== how many slabs ===== -/
def begS (g : Gd) (u : Nat) : Bool := (szAt g u).isSome
theorem begins_M {B : Nat} {p : Pl} {g : Gd} {M : Mem} (hp : WfP p) (hm : RMp p M) (hg : WfG B p g) (hs : ∀ k, k < 16 → M.1 46 (16 + k) = eSl (gSl g k)) {k : Nat} (hk : k < 16) : z_M_begins_37 M (nI k) = bI (begS g k) := by
  unfold z_M_begins_37 begS szAt
  rw [isThere_M hp hm hk, show (16 : Int32) = nI 16 from rfl, nI_add, nI_clamp (by omega), hs k hk]
  cases e : gSl g k with
  | none =>
    rw [if_pos (show eSl none = -9 from rfl)]
    cases thr p k <;> rfl
  | some c =>
    obtain ⟨h1, h2, h3, h4⟩ := hg.2.1 k c e
    have hc := h2.1
    have ht := layb_thr (h4 k h3).2.1
    rw [ht, if_neg (show ¬ bI true = 0 by decide), if_neg (show ¬ eSl (some c) = -9 from nI_nm9 (by omega)), show rem (eSl (some c)) (nI 16) = nI (c % 16) from rem16 c hc]
    dsimp only
    by_cases q : c % 16 = k
    · rw [if_pos (by rw [q]), if_pos q]; rfl
    · rw [if_neg (fun z => q ((nI_eq (by omega) (by omega)).mp z)), if_neg q]; rfl
theorem wx_slabCount {B : Nat} {p : Pl} {gh : Gh} {M : Mem} {Q : Option Value → Mem → Prop} (hg : WfG B p gh.1) (h : RCg 9 p gh M) (hQ : Q (some (.int (nI (cntB (begS gh.1) 16)))) M) : WX mi_G_slabCount 1 Q 0 [some (.ref 9), none, none] [] M := by
  refine sg_G_slabCount_9_0 M ?_
  have loop : ∀ u, u ≤ 16 → WX mi_G_slabCount 1 Q 4 [some (.ref 9), some (.int (nI (cntB (begS gh.1) u))), some (.int (nI u))] [] M := by
    refine downN 16 ?_ (fun u hu ih => ?_)
    · exact sg_G_slabCount_9_4 M _ _ (fun _ => hQ) (fun c => absurd ge16 c) (fun c => absurd ge16 c) (fun c => absurd ge16 c)
    · have e : M.1 11 (nI u).toNatClampNeg = eSz (szAt gh.1 u) := by rw [nI_clamp (by omega)]; exact h.2.1 u hu
      have es : cntB (begS gh.1) (u + 1) = cntB (begS gh.1) u + t1 (begS gh.1) u := rfl
      refine sg_G_slabCount_9_4 M _ _ (fun c => absurd c (lt16 hu)) (fun _ => vp_in_nI hu (by decide)) (fun _ c => ?_) (fun _ c => ?_)
      · rw [e] at c
        have hn : szAt gh.1 u = none := by
          cases q : szAt gh.1 u with
          | none => rfl
          | some z => rw [q] at c; exact absurd c (nI_nm9 (by have := (szAt_some hg q).2.1; omega))
        rw [es, show t1 (begS gh.1) u = 0 by unfold t1 begS; rw [hn]; rfl] at ih
        rw [nI_1]
        exact ih
      · rw [e] at c
        have hn : begS gh.1 u = true := by
          unfold begS
          cases q : szAt gh.1 u with
          | none => rw [q] at c; exact absurd rfl c
          | some z => rfl
        rw [es, show t1 (begS gh.1) u = 1 by unfold t1; rw [if_pos hn]] at ih
        rw [nI_1, nI_1]
        exact ih
  exact loop 0 (by decide)
theorem wx_countM {B : Nat} {p : Pl} {g : Gd} {x1 : Int32} {M : Mem} {Q : Option Value → Mem → Prop} (hp : WfP p) (hm : RMp p M) (hg : WfG B p g) (hs : ∀ k, k < 16 → M.1 46 (16 + k) = eSl (gSl g k)) (hQ : Q (some (.int (nI (cntB (begS g) 16)))) M) : WX mi_M_now 6 Q 69 [some (.ref 37), some (.int x1), some (.int 0), some (.int 0)] [] M := by
  have loop : ∀ u, u ≤ 16 → WX mi_M_now 6 Q 69 [some (.ref 37), some (.int x1), some (.int (nI (cntB (begS g) u))), some (.int (nI u))] [] M := by
    refine downN 16 ?_ (fun u hu ih => ?_)
    · exact sg_M_now_37_69 M _ _ _ (fun _ => hQ) (fun c => absurd ge16 c) (fun c => absurd ge16 c) (fun c => absurd ge16 c) (fun c => absurd ge16 c) (fun c => absurd ge16 c)
    · have eb := begins_M hp hm hg hs hu
      have e16 : (16 : Int32) + nI u = nI (16 + u) := by rw [show (16 : Int32) = nI 16 from rfl, nI_add]
      have v : vp_in (16 + nI u) 1257 := by rw [e16]; exact vp_in_nI (by omega) (by decide)
      have es : cntB (begS g) (u + 1) = cntB (begS g) u + t1 (begS g) u := rfl
      refine sg_M_now_37_69 M _ _ _ (fun c => absurd c (lt16 hu)) (fun _ => by rw [isCell_M hp hm]; exact bI_01 _) (fun _ _ => v) (fun _ _ _ => v) (fun _ c => ?_) (fun _ c => ?_)
      · rw [eb, bI_0] at c
        rw [es, show t1 (begS g) u = 0 by unfold t1; rw [c]; rfl] at ih
        rw [nI_1, Int32.add_zero]
        exact ih
      · rw [eb, bI_0] at c
        rw [es, show t1 (begS g) u = 1 by unfold t1; rw [if_pos (by simpa using c)]] at ih
        rw [nI_1, nI_1]
        exact ih
  exact loop 0 (by decide)
