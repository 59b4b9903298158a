/-! ===== what is refused ===== -/
/-- a number that is none of a cell, a size, a kind .. -/
def far (x : Int32) : Prop := x.toInt < -500 ∨ 500 < x.toInt
theorem far_le {x : Int32} (hx : far x) (h0 : ¬ x < 0) {n : Int32} (hn : n.toInt ≤ 500) : ¬ x ≤ n := by
  rw [Int32.lt_iff_toInt_lt, show (0 : Int32).toInt = 0 from rfl] at h0
  rw [Int32.le_iff_toInt_le]
  rcases hx with h | h <;> omega
theorem far_gt {x : Int32} (hx : far x) (h0 : ¬ x < 0) {n : Int32} (hn : n.toInt ≤ 500) : n < x := Int32.not_le.mp (far_le hx h0 hn)
theorem far_ne {x : Int32} (hx : far x) {n : Int32} (h1 : -500 ≤ n.toInt) (h2 : n.toInt ≤ 500) : ¬ x = n := by
  intro q
  rw [q] at hx
  rcases hx with h | h <;> omega
theorem okc_far1 {p : Pl} {x y : Int32} (hp : WfP p) (hx : far x) : okc p x y = false := by
  unfold okc
  have h4 := hp.1
  by_cases h : 0 ≤ x.toInt
  · have : ¬ x.toInt < (pW p : Int) := by rcases hx with q | q <;> omega
    rw [decide_eq_false this]; simp
  · rw [decide_eq_false h]; simp
theorem okc_far2 {p : Pl} {x y : Int32} (hp : WfP p) (hx : far y) : okc p x y = false := by
  unfold okc
  have h4 := hp.2.1
  by_cases h : 0 ≤ y.toInt
  · have : ¬ y.toInt < (pR p : Int) := by rcases hx with q | q <;> omega
    rw [decide_eq_false this]; simp
  · rw [decide_eq_false h]; simp
theorem far_has1 {p : Pl} {M : Mem} {x y : Int32} (hp : WfP p) (h : RCp p M) (hx : far x) : z_L_has_6 M x y = 0 := by
  rw [has_C hp h, okc_far1 hp hx]; rfl
theorem far_has2 {p : Pl} {M : Mem} {x y : Int32} (hp : WfP p) (h : RCp p M) (hx : far y) : z_L_has_6 M x y = 0 := by
  rw [has_C hp h, okc_far2 hp hx]; rfl
theorem far_open1 {p : Pl} {M : Mem} {x y : Int32} (hp : WfP p) (h : RCp p M) (hx : far x) : z_L_isOpen_6 M x y = 0 := by
  rw [isOpen_C hp h, show okd p x y = false by unfold okd; rw [okc_far1 hp hx]; rfl]; rfl
theorem far_open2 {p : Pl} {M : Mem} {x y : Int32} (hp : WfP p) (h : RCp p M) (hx : far y) : z_L_isOpen_6 M x y = 0 := by
  rw [isOpen_C hp h, show okd p x y = false by unfold okd; rw [okc_far2 hp hx]; rfl]; rfl
theorem far_size {x : Int32} (hx : far x) : z_C_isSize x = 0 := by
  unfold z_C_isSize
  by_cases h : x < 0
  · rw [if_pos h]
  · rw [if_neg h, if_pos (Int32.le_of_lt (far_gt hx h (by decide)))]
theorem far_num {x : Int32} (hx : far x) : z_C_isNumber x = 0 := by
  unfold z_C_isNumber
  by_cases h : x < 0
  · rw [if_pos h]
  · rw [if_neg h, if_pos (Int32.le_of_lt (far_gt hx h (by decide)))]
theorem far_cnt {s : Sg} {x : Int32} (hx : far x) : cntV s x = -1 := by
  unfold cntV
  rw [if_neg (far_ne hx (by decide) (by decide)), if_neg (far_ne hx (by decide) (by decide)), if_neg (far_ne hx (by decide) (by decide)), if_neg (far_ne hx (by decide) (by decide)), if_neg (far_ne hx (by decide) (by decide)), if_neg (far_ne hx (by decide) (by decide))]
theorem far_stk {s : Sg} {x : Int32} (hx : far x) : stkV s x = -1 := by
  unfold stkV
  rw [if_pos (far_size hx)]
theorem b_type1 {M : Mem} {Q : Option Value → Mem → Prop} (hd : Q (some (.int (-1))) M) : WX mi_C_type 2 Q 0 [some (.ref 0), some (.int (-1))] [] M :=
  sg_C_type_0_0 M _ (fun _ => hd) (fun c => absurd (by decide) c) (fun _ _ => hd)
theorem b_type2 {M : Mem} {Q : Option Value → Mem → Prop} (hd : Q (some (.int (-1))) M) : WX mi_C_type 2 Q 0 [some (.ref 0), some (.int 256)] [] M :=
  sg_C_type_0_0 M _ (fun _ => hd) (fun _ c => absurd c (by decide)) (fun _ _ => hd)
theorem b_cell {B : Nat} {s : Sg} {M : Mem} {Q : Option Value → Mem → Prop} {x : Int32} (hw : WfS B s) (hc : RC s M) (hx : far x) (hd : Q (some (.int (-1))) M) :
    WX mi_C_cell 5 Q 0 [some (.ref 0), some (.int x), some (.int 0), some (.int 0), none, none] [] M := by
  have e : z_L_has_6 M x 0 = 0 := far_has1 hw.2.1 hc.2.1 hx
  exact sg_C_cell_0_0 M x 0 0 (fun _ => hd) (fun c => absurd e c) (fun c => absurd e c) (fun c => absurd e c)
theorem b_lays {B : Nat} {s : Sg} {M : Mem} {Q : Option Value → Mem → Prop} {x : Int32} (hw : WfS B s) (hc : RC s M) (hx : far x) (hd : Q (some (.int (-1))) M) :
    WX mi_C_lays 5 Q 0 [some (.ref 0), some (.int 0), some (.int 0), some (.int x), none] [] M := by
  have e : z_L_has_6 M 0 x = 0 := far_has2 hw.2.1 hc.2.1 hx
  exact sg_C_lays_0_0 M 0 0 x (fun _ => hd) (fun _ c => absurd e c) (fun _ c => absurd e c) (fun _ c => absurd e c) (fun _ _ => hd)
theorem b_lifts {B : Nat} {s : Sg} {M : Mem} {Q : Option Value → Mem → Prop} {x : Int32} (hw : WfS B s) (hc : RC s M) (hx : far x) (hd : Q (some (.int (-1))) M) :
    WX mi_C_lifts 5 Q 0 [some (.ref 0), some (.int x), some (.int 0), none] [] M := by
  have e : z_L_has_6 M x 0 = 0 := far_has1 hw.2.1 hc.2.1 hx
  exact sg_C_lifts_0_0 M x 0 (fun c => absurd e c) (fun _ => hd)
theorem b_raises {B : Nat} {s : Sg} {M : Mem} {Q : Option Value → Mem → Prop} {x : Int32} (hw : WfS B s) (hc : RC s M) (hx : far x) (hd : Q (some (.int (-1))) M) :
    WX mi_C_raises 4 Q 0 [some (.ref 0), some (.int 0), some (.int 0), some (.int x), none] [] M := by
  exact sg_C_raises_0_0 M 0 0 x (fun _ => hd) (fun _ _ => hd) (fun _ c1 c2 _ => absurd c2 (far_le hx c1 (by decide))) (fun _ c1 c2 _ => absurd c2 (far_le hx c1 (by decide))) (fun _ c1 c2 _ _ => absurd c2 (far_le hx c1 (by decide))) (fun _ c1 c2 _ _ => absurd c2 (far_le hx c1 (by decide))) (fun _ _ _ => hd)
theorem b_now {B : Nat} {s : Sg} {M : Mem} {Q : Option Value → Mem → Prop} {x : Int32} (hw : WfS B s) (hc : RC s M) (hx : far x) (hd : Q (some (.int (-1))) M) :
    WX mi_C_now 5 Q 0 [some (.ref 0), some (.int x)] [] M := by
  exact sg_C_now_0_0 M x (fun c => absurd c (far_ne hx (by decide) (by decide))) (fun c => absurd c (far_ne hx (by decide) (by decide))) (fun c => absurd c (far_ne hx (by decide) (by decide))) (fun c => absurd c (far_ne hx (by decide) (by decide))) (fun c => absurd c (far_ne hx (by decide) (by decide))) (fun c => absurd c (far_ne hx (by decide) (by decide))) (fun c => absurd c (far_ne hx (by decide) (by decide))) (fun c => absurd c (far_ne hx (by decide) (by decide))) (fun _ _ _ _ _ _ _ _ => hd)
theorem b_drop {B : Nat} {s : Sg} {M : Mem} {Q : Option Value → Mem → Prop} {x : Int32} (hw : WfS B s) (hc : RC s M) (hx : far x) (hd : Q (some (.int (-1))) M) :
    WX mi_C_drop 5 Q 0 [some (.ref 0), some (.int 0), some (.int x), some (.int 0), none] [] M := by
  have e : z_L_isOpen_6 M 0 x = 0 := far_open2 hw.2.1 hc.2.1 hx
  exact sg_C_drop_0_0 M 0 x 0 (fun _ => hd) (fun c => absurd e c) (fun c => absurd e c) (fun c => absurd e c)
theorem b_feeds {B : Nat} {s : Sg} {M : Mem} {Q : Option Value → Mem → Prop} {x : Int32} (hw : WfS B s) (hc : RC s M) (hx : far x) (hd : Q (some (.int (-1))) M) :
    WX mi_C_feeds 5 Q 0 [some (.ref 0), some (.int x), some (.int 0), none, none, none, none] [] M := by
  have e : z_L_isOpen_6 M x 0 = 0 := far_open1 hw.2.1 hc.2.1 hx
  exact sg_C_feeds_0_0 M x 0 (fun c => absurd e c) (fun _ => hd)
theorem b_mend {B : Nat} {s : Sg} {M : Mem} {Q : Option Value → Mem → Prop} {x : Int32} (hw : WfS B s) (hc : RC s M) (hx : far x) (hd : Q (some (.int (-1))) M) :
    WX mi_C_mend 5 Q 0 [some (.ref 0), some (.int x)] [] M := by
  exact sg_C_mend_0_0 M x (fun _ => hd) (fun c1 c2 => absurd c2 (far_le hx c1 (by decide))) (fun _ _ => hd)
theorem b_plan {B : Nat} {s : Sg} {M : Mem} {Q : Option Value → Mem → Prop} {x : Int32} (hw : WfS B s) (hc : RC s M) (hx : far x) (hd : Q (some (.int (-1))) M) :
    WX mi_C_plan 26 Q 0 [some (.ref 0), some (.int x)] [] M := by
  exact sg_C_plan_0_0 M x (fun c => absurd c (far_ne hx (by decide) (by decide))) (fun _ _ => hd) (fun _ c => absurd (far_num hx) c)
theorem b_barrow {B : Nat} {s : Sg} {M : Mem} {Q : Option Value → Mem → Prop} {x : Int32} (hw : WfS B s) (hc : RC s M) (hx : far x) (hd : Q (some (.int (-1))) M) :
    WX mi_C_barrow 5 Q 0 [some (.ref 0), some (.int x), some (.int 0), none, none, none, none] [] M := by
  have e : z_L_isOpen_6 M x 0 = 0 := far_open1 hw.2.1 hc.2.1 hx
  exact sg_C_barrow_0_0 M x 0 (fun c => absurd e c) (fun _ => hd)
theorem b_odds {B : Nat} {s : Sg} {M : Mem} {Q : Option Value → Mem → Prop} {x : Int32} (hw : WfS B s) (hc : RC s M) (hx : far x) (hd : Q (some (.int (-1))) M) :
    WX mi_C_odds 2 Q 0 [some (.ref 0), some (.int x), some (.int 0), some (.int 0), some (.int 0), none, none, none] [] M := by
  exact sg_C_odds_0_0 M x 0 0 0 (fun _ => hd) (fun _ _ => hd) (fun c1 c2 _ => absurd (far_gt hx c1 (by decide)) c2) (fun c1 c2 _ _ => absurd (far_gt hx c1 (by decide)) c2) (fun c1 c2 _ _ _ => absurd (far_gt hx c1 (by decide)) c2) (fun c1 c2 _ _ _ _ => absurd (far_gt hx c1 (by decide)) c2) (fun c1 c2 _ _ _ _ _ => absurd (far_gt hx c1 (by decide)) c2) (fun c1 c2 _ _ _ _ _ _ => absurd (far_gt hx c1 (by decide)) c2) (fun c1 c2 _ _ _ _ _ _ => absurd (far_gt hx c1 (by decide)) c2)
theorem b_saw {B : Nat} {s : Sg} {M : Mem} {Q : Option Value → Mem → Prop} {x : Int32} (hw : WfS B s) (hc : RC s M) (hx : far x) (hd : Q (some (.int (-1))) M) :
    WX mi_C_saw 3 Q 0 [some (.ref 0), some (.int x), some (.int 0)] [] M := by
  have e : z_L_isOpen_6 M x 0 = 0 := far_open1 hw.2.1 hc.2.1 hx
  exact sg_C_saw_0_0 M x 0 (fun c _ => absurd e c) (fun c _ => absurd e c) (fun _ => hd)
theorem b_mark {B : Nat} {s : Sg} {M : Mem} {Q : Option Value → Mem → Prop} {x : Int32} (hw : WfS B s) (hc : RC s M) (hx : far x) (hd : Q (some (.int (-1000000))) M) :
    WX mi_C_mark 6 Q 0 [some (.ref 0), some (.int x), some (.int 0), some (.int 0), none] [] M := by
  exact sg_C_mark_0_0 M x 0 0 (fun _ c => absurd c (far_ne hx (by decide) (by decide))) (fun _ c => absurd c (far_ne hx (by decide) (by decide))) (fun _ c => absurd c (far_ne hx (by decide) (by decide))) (fun _ c => absurd c (far_ne hx (by decide) (by decide))) (fun _ c => absurd c (far_ne hx (by decide) (by decide))) (fun _ c => absurd c (far_ne hx (by decide) (by decide))) (fun _ _ _ _ _ _ _ => hd) (fun _ => hd)
theorem b_keep {B : Nat} {s : Sg} {M : Mem} {Q : Option Value → Mem → Prop} {x : Int32} (hw : WfS B s) (hc : RC s M) (hx : far x) (hd : Q (some (.int (-1))) M) :
    WX mi_C_keep 2 Q 0 [some (.ref 0), some (.int x)] [] M := by
  exact sg_C_keep_0_0 M x (fun _ => hd) (fun c1 c2 => absurd (Int32.le_of_lt c2) (far_le hx c1 (by decide))) (fun _ _ => hd)
theorem b_back {B : Nat} {s : Sg} {M : Mem} {Q : Option Value → Mem → Prop} {x : Int32} (hw : WfS B s) (hc : RC s M) (hx : far x) (hd : Q (some (.int (-1))) M) :
    WX mi_C_back 2 Q 0 [some (.ref 0), some (.int x)] [] M := by
  exact sg_C_back_0_0 M x (fun _ => hd) (fun c1 c2 _ => absurd (Int32.le_of_lt c2) (far_le hx c1 (by decide))) (fun c1 c2 _ => absurd (Int32.le_of_lt c2) (far_le hx c1 (by decide))) (fun _ _ => hd)
/-- all that is asked with far numbers is refused, and nothing changes -/
theorem k_refused {B : Nat} {s : Sg} {M : Mem} {Q : Option Value → Mem → Prop} {x : Int32} (hw : WfS B s) (hc : RC s M) (h1 : 0 ≤ x → far (x + 1000)) (h2 : ¬ 0 ≤ x → far (x - 999)) (hd : Q (some (.int 1)) M) :
    WX mi_T_refused 27 Q 0 [some (.ref 0), some (.int x), none] [] M := by
  have tail : ∀ y : Int32, far y → WX mi_C_type 2 (fun rv M' => WX mi_T_refused 27 Q 23 [some (.ref 0), some (.int x), some (.int y)] (rv.toList ++ []) M') 0 [some (.ref 0), some (.int (-1))] [] M := by
    intro y hx
    refine b_type1 ?_
    refine sg_T_refused_0_23 M _ _ _ (fun c => absurd rfl c) (fun _ => b_type2 ?_)
    refine sg_T_refused_0_34 M _ _ _ (fun c => absurd rfl c) (fun _ => b_cell hw hc hx ?_)
    refine sg_T_refused_0_45 M _ _ _ (fun c => absurd rfl c) (fun _ => b_lays hw hc hx ?_)
    refine sg_T_refused_0_56 M _ _ _ (fun c => absurd rfl c) (fun _ => b_lifts hw hc hx ?_)
    refine sg_T_refused_0_66 M _ _ _ (fun c => absurd rfl c) (fun _ => b_raises hw hc hx ?_)
    refine sg_T_refused_0_77 M _ _ _ (fun c => absurd rfl c) (fun _ => b_now hw hc hx ?_)
    refine sg_T_refused_0_86 M _ _ _ (fun c => absurd rfl c) (fun _ c => absurd (far_size hx) c) (fun _ c => absurd (by rw [stock_z hc]; exact far_stk hx) c) (fun _ _ => b_drop hw hc hx ?_)
    refine sg_T_refused_0_106 M _ _ _ (fun c => absurd rfl c) (fun _ => b_feeds hw hc hx ?_)
    refine sg_T_refused_0_116 M _ _ _ (fun c => absurd rfl c) (fun _ => b_mend hw hc hx ?_)
    refine sg_T_refused_0_125 M _ _ _ (fun c => absurd rfl c) (fun _ => b_plan hw hc hx ?_)
    refine sg_T_refused_0_134 M _ _ _ (fun c => absurd rfl c) (fun _ => b_barrow hw hc hx ?_)
    refine sg_T_refused_0_144 M _ _ _ (fun c => absurd rfl c) (fun _ => b_odds hw hc hx ?_)
    refine sg_T_refused_0_156 M _ _ _ (fun c => absurd rfl c) (fun _ => b_saw hw hc hx ?_)
    refine sg_T_refused_0_166 M _ _ _ (fun c => absurd rfl c) (fun _ => b_mark hw hc hx ?_)
    refine sg_T_refused_0_177 M _ _ _ (fun c => absurd rfl c) (fun _ => b_keep hw hc hx ?_)
    refine sg_T_refused_0_187 M _ _ _ (fun c => absurd rfl c) (fun _ => b_back hw hc hx ?_)
    exact sg_T_refused_0_196 M _ _ _ (fun c => absurd rfl c) (fun _ c => absurd (by rw [count_z hc]; exact far_cnt hx) c) (fun _ _ => hd)
  exact sg_T_refused_0_0 M _ (fun c => tail _ (h1 c)) (fun c => tail _ (h2 c))
