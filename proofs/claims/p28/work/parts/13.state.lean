/-! ===== the yard as both see it ===== -/
/-- wide, rows, lids, drains, the door -/
abbrev Pl : Type := Nat × Nat × (Nat → Bool) × (Nat → Bool) × Nat
def pW (p : Pl) : Nat := p.1
def pR (p : Pl) : Nat := p.2.1
def pL (p : Pl) : Nat → Bool := p.2.2.1
def pD (p : Pl) : Nat → Bool := p.2.2.2.1
def pO (p : Pl) : Nat := p.2.2.2.2
/-- the cell is there -/
def thr (p : Pl) (k : Nat) : Bool := decide (k % 4 < pW p) && decide (k / 4 < pR p)
/-- there, no lid, no drain -/
def layb (p : Pl) (k : Nat) : Bool := thr p k && !pL p k && !pD p k
def WfP (p : Pl) : Prop := pW p ≤ 4 ∧ pR p ≤ 4 ∧ (∀ k, k < 16 → pL p k = true → thr p k = true) ∧ (∀ k, k < 16 → pD p k = true → thr p k = true ∧ pL p k = false) ∧ (pO p < 16 ∧ (0 < pW p → 0 < pR p → thr p (pO p) = true)) ∧ (∀ k, 16 ≤ k → pL p k = false ∧ pD p k = false)
/-- heights, the slab that lies on a cell (16 times its size and its upper left cell), stock, today's cells, days -/
abbrev Gd : Type := (Nat → Nat) × (Nat → Option Nat) × (Nat → Nat) × (Nat → Bool) × Nat
def gHt (g : Gd) : Nat → Nat := g.1
def gSl (g : Gd) : Nat → Option Nat := g.2.1
def gSt (g : Gd) : Nat → Nat := g.2.2.1
def gTd (g : Gd) : Nat → Bool := g.2.2.2.1
def gDy (g : Gd) : Nat := g.2.2.2.2
/-- a slab's cells, from its upper left one, as bits by size -/
def shp (z : Nat) : Nat := ([51, 3, 17, 1] : List Nat).getD z 0
def wdt (z : Nat) : Nat := if z < 2 then 2 else 1
def inS (c k : Nat) : Bool := decide (c % 16 ≤ k) && (shp (c / 16)).testBit (k - c % 16)
def fitR (c : Nat) : Prop := c < 64 ∧ c % 16 % 4 + wdt (c / 16) ≤ 4
def WfG (B : Nat) (p : Pl) (g : Gd) : Prop := (∀ k, k < 16 → thr p k = true → gHt g k ≤ 9) ∧
  (∀ k c, gSl g k = some c → k < 16 ∧ fitR c ∧ inS c k = true ∧ ∀ j, inS c j = true → j < 16 ∧ layb p j = true ∧ gSl g j = some c) ∧
  (∀ k, gTd g k = true → ∃ c, gSl g k = some c) ∧ (∀ k c, gSl g k = some c → gTd g k = gTd g (c % 16)) ∧ gDy g ≤ 99 ∧ ∀ z, z < 4 → gSt g z ≤ B
/-- the slab's number by its upper left cell: none -/
def szAt (g : Gd) (u : Nat) : Option Nat := match gSl g u with
  | some c => if c % 16 = u then some (c / 16) else none
  | none => none
def eSz (o : Option Nat) : Int32 := match o with
  | some z => nI z
  | none => -9
/-- what was done: 0 laid, 1 lifted, 2 raised, 3 a day; where; what was before -/
abbrev En : Type := Nat × Nat × Nat
def rmv (c : Nat) (g : Gd) : Gd := (gHt g, fun k => if inS c k = true then none else gSl g k, fun z => if z = c / 16 then gSt g z + 1 else gSt g z, fun k => if inS c k = true then false else gTd g k, gDy g)
def putc (c : Nat) (t : Bool) (g : Gd) : Gd := (gHt g, fun k => if inS c k = true then some c else gSl g k, fun z => if z = c / 16 then gSt g z - 1 else gSt g z, fun k => if inS c k = true then t else gTd g k, gDy g)
def und (e : En) (g : Gd) : Gd := match e.1 with
  | 0 => rmv (16 * ((szAt g e.2.1).getD 0) + e.2.1) g
  | 1 => putc (16 * (e.2.2 % 4) + e.2.1) (decide (4 ≤ e.2.2)) g
  | 2 => (fun k => if k = e.2.1 then e.2.2 else gHt g k, gSl g, gSt g, gTd g, gDy g)
  | _ => (gHt g, gSl g, gSt g, fun k => match gSl g k with
      | some c => e.2.2.testBit (c % 16)
      | none => false, gDy g - 1)
/-- what may be undone, the latest first: the entry that the class keeps, the state that the model keeps -/
abbrev Hs : Type := List (En × Gd)
/-- an entry may be undone at a state -/
def eOk (p : Pl) (e : En) (g : Gd) : Prop := match e.1 with
  | 0 => e.2.1 < 16 ∧ e.2.2 = 0 ∧ ∃ z, szAt g e.2.1 = some z
  | 1 => e.2.1 < 16 ∧ e.2.2 < 8 ∧ fitR (16 * (e.2.2 % 4) + e.2.1) ∧ 0 < gSt g (e.2.2 % 4) ∧ ∀ j, inS (16 * (e.2.2 % 4) + e.2.1) j = true → j < 16 ∧ layb p j = true ∧ gSl g j = none
  | 2 => e.2.1 < 16 ∧ e.2.2 ≤ 9
  | 3 => e.2.1 = 0 ∧ e.2.2 < 65536 ∧ 0 < gDy g ∧ (∀ k, gTd g k = false) ∧ ∀ u, u < 16 → e.2.2.testBit u = true → ∃ z, szAt g u = some z
  | _ => False
def chn (B : Nat) (p : Pl) : Gd → Hs → Prop
  | _, [] => True
  | g, (e, s) :: t => eOk p e g ∧ s = und e g ∧ WfG B p s ∧ chn B p s t
abbrev Gh : Type := Gd × Hs
def WfH (B : Nat) (p : Pl) (gh : Gh) : Prop := WfG B p gh.1 ∧ chn B p gh.1 gh.2 ∧ gh.2.length ≤ 10
/-- a ground of the class, its object at the place b, its rows behind it -/
def RCg (b : Nat) (p : Pl) (gh : Gh) (M : Mem) : Prop := (∀ k, k < 16 → thr p k = true → M.1 (b + 1) k = nI (gHt gh.1 k)) ∧ (∀ u, u < 16 → M.1 (b + 2) u = eSz (szAt gh.1 u)) ∧ (∀ z, z < 4 → M.1 (b + 3) z = nI (gSt gh.1 z)) ∧
  M.1 b 3 = sI (fun u => (szAt gh.1 u).isSome && gTd gh.1 u) ∧ M.1 b 4 = nI (gDy gh.1) ∧ M.1 b 8 = nI gh.2.length ∧
  ∀ j e, gh.2[j]? = some e → M.1 (b + 4) (gh.2.length - 1 - j) = nI e.1.1 ∧ M.1 (b + 5) (gh.2.length - 1 - j) = nI e.1.2.1 ∧ M.1 (b + 6) (gh.2.length - 1 - j) = nI e.1.2.2
def eSl (o : Option Nat) : Int32 := match o with
  | some c => nI c
  | none => -9
/-- a state in the model's row, from o on -/
def blk (o : Nat) (p : Pl) (g : Gd) (f : Nat → Int32) : Prop := (∀ k, k < 16 → thr p k = true → f (o + k) = nI (gHt g k)) ∧ (∀ k, k < 16 → f (o + 16 + k) = eSl (gSl g k)) ∧ (∀ z, z < 4 → f (o + 32 + z) = nI (gSt g z)) ∧ f (o + 36) = sI (gTd g) ∧ f (o + 37) = nI (gDy g)
/-- the text, the plot, the ground with its history, the images, what was seen, the trace -/
abbrev Sg : Type := List Nat × Pl × Gh × (Option Gh × Option Gh) × List Nat × Int64
def WfS (B : Nat) (s : Sg) : Prop := (s.1.length ≤ 150 ∧ ∀ c ∈ s.1, c < 256) ∧ WfP s.2.1 ∧ WfH B s.2.1 s.2.2.1 ∧ (∀ gh, s.2.2.2.1.1 = some gh → WfH B s.2.1 gh) ∧ (∀ gh, s.2.2.2.1.2 = some gh → WfH B s.2.1 gh) ∧ (s.2.2.2.2.1.length ≤ 6 ∧ ∀ k ∈ s.2.2.2.2.1, k < 16 ∧ thr s.2.1 k = true ∧ pL s.2.1 k = false)
def RCt (t : List Nat) (M : Mem) : Prop := M.1 1 1 = nI t.length ∧ ∀ j c, t[j]? = some c → M.1 2 j = nI c
def RCp (p : Pl) (M : Mem) : Prop := M.1 6 0 = nI (pW p) ∧ M.1 6 1 = nI (pR p) ∧ M.1 6 2 = nI (pO p) ∧ M.1 6 3 = sI (pL p) ∧ M.1 6 4 = sI (pD p)
def RCi (p : Pl) (im : Option Gh × Option Gh) (M : Mem) : Prop := M.1 0 8 = sI (fun k => (decide (k = 0) && im.1.isSome) || (decide (k = 1) && im.2.isSome)) ∧ (∀ gh, im.1 = some gh → RCg 16 p gh M) ∧ (∀ gh, im.2 = some gh → RCg 23 p gh M)
def RCs (sn : List Nat) (M : Mem) : Prop := M.1 0 9 = sI (fun k => decide (k ∈ sn)) ∧ M.1 0 10 = nI sn.length
def RC (s : Sg) (M : Mem) : Prop := RCt s.1 M ∧ RCp s.2.1 M ∧ RCg 9 s.2.1 s.2.2.1 M ∧ RCi s.2.1 s.2.2.2.1 M ∧ RCs s.2.2.2.2.1 M ∧ M.2 0 = s.2.2.2.2.2
/-- the class's calls leave the model's cells as they are, and the other way round; the script stays -/
def FrC (M M' : Mem) : Prop := (∀ q, 37 ≤ q → M'.1 q = M.1 q) ∧ M'.2 37 = M.2 37
theorem RCg.fr {b : Nat} {p : Pl} {gh : Gh} {M M' : Mem} (hb : b + 6 < 37) (h : RCg b p gh M) (hf : ∀ q, q < 37 → M'.1 q = M.1 q) : RCg b p gh M' := by
  unfold RCg at h ⊢
  rw [hf b (by omega), hf (b + 1) (by omega), hf (b + 2) (by omega), hf (b + 3) (by omega), hf (b + 4) (by omega), hf (b + 5) (by omega), hf (b + 6) (by omega)]
  exact h
theorem FrC.refl (M : Mem) : FrC M M := ⟨fun _ _ => rfl, rfl⟩
theorem FrC.trans {M M' M'' : Mem} (h : FrC M M') (h' : FrC M' M'') : FrC M M'' := ⟨fun q hq => (h'.1 q hq).trans (h.1 q hq), h'.2.trans h.2⟩
theorem FrC.wr {M M' : Mem} (h : FrC M M') {q k : Nat} {v : Int32} (hq : q < 37) : FrC M (wr M' q k v) := ⟨fun r hr => by rw [wr_ne M' (by omega)]; exact h.1 r hr, h.2⟩
theorem WfG.up {B B' : Nat} {p : Pl} {g : Gd} (hB : B ≤ B') (h : WfG B p g) : WfG B' p g := ⟨h.1, h.2.1, h.2.2.1, h.2.2.2.1, h.2.2.2.2.1, fun z hz => Nat.le_trans (h.2.2.2.2.2 z hz) hB⟩
theorem chn.up {B B' : Nat} {p : Pl} (hB : B ≤ B') : ∀ (hs : Hs) (g : Gd), chn B p g hs → chn B' p g hs
  | [], _, _ => trivial
  | (_, s) :: t, _, h => ⟨h.1, h.2.1, h.2.2.1.up hB, chn.up hB t s h.2.2.2⟩
theorem WfH.up {B B' : Nat} {p : Pl} {gh : Gh} (hB : B ≤ B') (h : WfH B p gh) : WfH B' p gh := ⟨h.1.up hB, chn.up hB _ _ h.2.1, h.2.2⟩
theorem WfS.up {B B' : Nat} {s : Sg} (hB : B ≤ B') (h : WfS B s) : WfS B' s := ⟨h.1, h.2.1, h.2.2.1.up hB, fun gh e => (h.2.2.2.1 gh e).up hB, fun gh e => (h.2.2.2.2.1 gh e).up hB, h.2.2.2.2.2⟩
