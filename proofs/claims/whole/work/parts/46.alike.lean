theorem alk_na {g : Gd} {a b : Nat} (h : szAt g a = none) : alk g b a = false := by
  unfold alk
  have : (List.range 16).any (fun k => jnA 0 g a k && bes (jnA 0 g b) k) = false := by
    rw [List.any_eq_false]
    intro k _
    unfold jnA
    rw [h]
    simp
  rw [this, Bool.and_false]
theorem wx_alikeM {B : Nat} {p : Pl} {g : Gd} {M : Mem} {Q : Option Value → Mem → Prop} (hp : WfP p) (hm : RMp p M) (hg : WfG B p g) (hs : ∀ k, k < 16 → M.1 46 (16 + k) = eSl (gSl g k)) (hQ : Q (some (.int (nI (alN g)))) M) : WX mi_M_alike 5 Q 0 [some (.ref 37), none, none, none, none] [] M := by
  rw [alN_M] at hQ
  refine sg_M_alike_37_0 M ?_
  have outer : ∀ a, a ≤ 16 → WX mi_M_alike 5 Q 4 [some (.ref 37), some (.int (nI (sumA (fun a => cntB (fun b => alk g b a) a) a))), some (.int (nI a)), none, none] [] M := by
    refine downN 16 ?_ (fun a ha ih => ?_)
    · exact sg_M_alike_37_4 M _ _ (fun _ => hQ) (fun c => absurd ge16 c)
    · refine sg_M_alike_37_4 M _ _ (fun c => absurd c (lt16 ha)) (fun _ => ?_)
      have e16 : ∀ k, (16 : Int32) + nI k = nI (16 + k) := fun k => by rw [show (16 : Int32) = nI 16 from rfl, nI_add]
      have v : ∀ k, k < 16 → vp_in (16 + nI k) 1257 := fun k hk => by rw [e16]; exact vp_in_nI (by omega) (by decide)
      have inner : ∀ b, b ≤ a → WX mi_M_alike 5 Q 12 [some (.ref 37), some (.int (nI (sumA (fun a => cntB (fun b => alk g b a) a) a + cntB (fun b => alk g b a) b))), some (.int (nI a)), some (.int (nI b)), none] [] M := by
        refine downN a ?_ (fun b hb ih2 => ?_)
        · refine sg_M_alike_37_12 M _ _ _ (fun _ => ?_) (fun c => absurd (Int32.le_refl _) c) (fun c => absurd (Int32.le_refl _) c) (fun c => absurd (Int32.le_refl _) c) (fun c => absurd (Int32.le_refl _) c) (fun c => absurd (Int32.le_refl _) c) (fun c => absurd (Int32.le_refl _) c) (fun c => absurd (Int32.le_refl _) c) (fun c => absurd (Int32.le_refl _) c) (fun c => absurd (Int32.le_refl _) c) (fun c => absurd (Int32.le_refl _) c) (fun c => absurd (Int32.le_refl _) c) (fun c => absurd (Int32.le_refl _) c) (fun c => absurd (Int32.le_refl _) c) (fun c => absurd (Int32.le_refl _) c)
          rw [nI_1]
          exact ih
        · have hb16 : b < 16 := by omega
          have nle : ¬ nI a ≤ nI b := fun c => by
            have := (nI_le_iff (by omega) (by omega)).mp c
            omega
          have eba := begins_M hp hm hg hs ha
          have ebb := begins_M hp hm hg hs hb16
          have es : cntB (fun b => alk g b a) (b + 1) = cntB (fun b => alk g b a) b + (if alk g b a = true then 1 else 0) := rfl
          have no : alk g b a = false → WX mi_M_alike 5 Q 12 [some (.ref 37), some (.int (nI (sumA (fun a => cntB (fun b => alk g b a) a) a + cntB (fun b => alk g b a) b) + 0)), some (.int (nI a)), some (.int (nI b + 1)), none] [] M := by
            intro h
            have := ih2
            rw [es, if_neg (by rw [h]; decide)] at this
            rw [Int32.add_zero, nI_1]
            exact this
          have of : ∀ k, k < 16 → ¬ z_M_begins_37 M (nI k) = 0 → ∃ z, szAt g k = some z ∧ z < 4 ∧ M.1 46 (16 + nI k).toNatClampNeg = nI (16 * z + k) := by
            intro k hk hn
            rw [begins_M hp hm hg hs hk, bI_0] at hn
            have hn : begS g k = true := by cases q : begS g k with | true => rfl | false => exact absurd q hn
            obtain ⟨z, hz⟩ := Option.isSome_iff_exists.mp hn
            obtain ⟨-, h2, h3, -⟩ := szAt_some hg hz
            refine ⟨z, hz, h2, ?_⟩
            rw [e16, nI_clamp (by omega), hs k hk, h3]
            rfl
          have dv : ∀ z k, z < 4 → k < 16 → nI (16 * z + k) / 16 = nI z := fun z k hz hk => by rw [div16 _ (by omega), show (16 * z + k) / 16 = z by omega]
          refine sg_M_alike_37_12 M _ _ _ (fun c => absurd c nle) (fun _ => by rw [isCell_M hp hm]; exact bI_01 _) (fun _ _ => v a ha) (fun _ _ _ => v a ha) (fun _ c => ?_) (fun _ _ => by rw [isCell_M hp hm]; exact bI_01 _) (fun _ _ _ => v b hb16) (fun _ _ _ _ => v b hb16) (fun _ c c2 => ?_) (fun _ _ _ => v a ha) (fun _ _ _ => v b hb16) (fun _ c c2 c3 => ?_) (fun _ _ _ _ => v a ha) (fun _ _ _ _ => v b hb16) (fun _ c c2 c3 => ?_)
          · rw [eba, bI_0] at c
            refine no (alk_na ?_)
            unfold begS at c
            cases q : szAt g a with
            | none => rfl
            | some z => rw [q] at c; cases c
          · obtain ⟨z, hz, -, -⟩ := of a ha c
            rw [ebb, bI_0] at c2
            refine no ?_
            unfold begS at c2
            unfold alk
            have : ¬ szAt g a = szAt g b := fun q => by rw [← q, hz] at c2; cases c2
            rw [decide_eq_false this, Bool.false_and]
          · obtain ⟨z, hz, hz4, e1⟩ := of a ha c
            obtain ⟨y, hy, hy4, e2⟩ := of b hb16 c2
            rw [e1, e2, dv z a hz4 ha, dv y b hy4 hb16] at c3
            refine no ?_
            unfold alk
            have : ¬ szAt g a = szAt g b := fun q => by rw [hz, hy] at q; cases q; exact c3 rfl
            rw [decide_eq_false this, Bool.false_and]
          · obtain ⟨z, hz, hz4, e1⟩ := of a ha c
            obtain ⟨y, hy, hy4, e2⟩ := of b hb16 c2
            rw [e1, e2, dv z a hz4 ha, dv y b hy4 hb16] at c3
            have ezy := (nI_eq (a := z) (b := y) (by omega) (by omega)).mp c3
            rw [e1, e2]
            refine wx_doTouch hp hm hg hs (by omega) (by omega) ?_
            have et := tc_al hg hz hy
            have ea : alk g b a = tcN p g (16 * z + a) (16 * y + b) 16 := by
              rw [et]
              unfold alk
              rw [hz, hy, ezy, decide_eq_true rfl, Bool.true_and]
            rw [← ea]
            refine sg_M_alike_37_95 M _ _ _ _ _ _ (fun q => no ((bI_0 _).mp q)) (fun q => ?_)
            rw [bI_0] at q
            have yes : alk g b a = true := by cases q2 : alk g b a with | true => rfl | false => exact absurd q2 q
            have := ih2
            rw [es, if_pos yes, ← Nat.add_assoc] at this
            rw [nI_1, nI_1]
            exact this
      have h0 := inner 0 (Nat.zero_le _)
      exact h0
  exact outer 0 (by decide)
