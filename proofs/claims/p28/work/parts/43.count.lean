/-! ===== how many slabs ===== -/
def begS (g : Gd) (u : Nat) : Bool := (szAt g u).isSome
theorem wx_slabCount {B : Nat} {p : Pl} {gh : Gh} {M : Mem} {Q : Option Value → Mem → Prop} (hg : WfG B p gh.1) (h : RCg 9 p gh M) (hQ : Q (some (.int (nI (cntB (begS gh.1) 16)))) M) : WX mi_G_slabCount 1 Q 0 [some (.ref 9), none, none] [] M := by
  refine sg_G_slabCount_9_0 M ?_
  have loop : ∀ u, u ≤ 16 → WX mi_G_slabCount 1 Q 4 [some (.ref 9), some (.int (nI (cntB (begS gh.1) u))), some (.int (nI u))] [] M := by
    refine downN 16 ?_ (fun u hu ih => ?_)
    · exact sg_G_slabCount_9_4 M _ _ (fun _ => hQ) (fun c => absurd ge16 c) (fun c => absurd ge16 c) (fun c => absurd ge16 c)
    · have e : M.1 11 (nI u).toNatClampNeg = eSz (szAt gh.1 u) := by rw [nI_clamp (by omega)]; exact h.2.1 u hu
      have es : cntB (begS gh.1) (u + 1) = cntB (begS gh.1) u + t1 (begS gh.1) u := rfl
      refine sg_G_slabCount_9_4 M _ _ (fun c => absurd c (lt16 hu)) (fun _ => vp_in_nI hu (by decide)) (fun _ c => ?_) (fun _ c => ?_)
      · rw [e] at c
        have hn : szAt gh.1 u = none := by
          cases q : szAt gh.1 u with
          | none => rfl
          | some z => rw [q] at c; exact absurd c (nI_nm9 (by have := (szAt_some hg q).2.1; omega))
        rw [es, show t1 (begS gh.1) u = 0 by unfold t1 begS; rw [hn]; rfl] at ih
        rw [nI_1]
        exact ih
      · rw [e] at c
        have hn : begS gh.1 u = true := by
          unfold begS
          cases q : szAt gh.1 u with
          | none => rw [q] at c; exact absurd rfl c
          | some z => rfl
        rw [es, show t1 (begS gh.1) u = 1 by unfold t1; rw [if_pos hn]] at ih
        rw [nI_1, nI_1]
        exact ih
  exact loop 0 (by decide)
