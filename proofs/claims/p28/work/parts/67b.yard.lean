/-! ===== the law's yard(): the fixed text is typed and read; printed by wip/gen28/p67.py ===== -/
theorem k_type0 {t : List Nat} {p : Pl} {gh : Gh} {im : Option Gh × Option Gh} {sn : List Nat} {tr : Int64} {c : Nat} {x : Int32} {M0 M : Mem} {Q : Option Value → Mem → Prop} (e : x = nI c) (hcc : c < 256) (hlt : t.length < 150) (ht : ∀ d ∈ t, d < 256) (hc : RC (t, p, gh, im, sn, tr) M) (hf : FrC M0 M) (k : ∀ M1, RC (t ++ [c], p, gh, im, sn, tr) M1 → FrC M0 M1 → Q (some (.int (nI (t.length + 1)))) M1) :
    WX mi_C_type 2 Q 0 [some (.ref 0), some (.int x)] [] M := by
  subst e
  exact k_typeK hcc hlt M Q hc (fun M1 h1 f1 => k M1 h1 (hf.trans f1))
/-- the yard behind the fixed text -/
def yS (tr : Int64) : Sg := sgD rY.2 tr
theorem k_yard0 {p : Pl} {gh : Gh} {im : Option Gh × Option Gh} {sn : List Nat} {tr : Int64} : K0 mi_T_yard 8 [] ([], p, gh, im, sn, tr) (.int 1) (yS tr) := by
  intro M Q hc hQ
  show WX mi_T_yard 8 Q 0 [some (.ref 0)] [] M
  have f0 := FrC.refl M
  refine sg_T_yard_0_0 M ?_
  refine k_type0 (t := []) (c := 119) rfl (by decide) (by decide) (by decide) hc f0 (fun M1 h1 f1 => ?_)
  have h1 : RC ([119], p, gh, im, sn, tr) M1 := h1
  refine sg_T_yard_0_6 M1 _ (fun c => absurd c (by decide)) (fun _ => ?_)
  refine k_type0 (t := [119]) (c := 32) rfl (by decide) (by decide) (by decide) h1 f1 (fun M2 h2 f2 => ?_)
  have h2 : RC ([119, 32], p, gh, im, sn, tr) M2 := h2
  clear h1 f1
  refine sg_T_yard_0_15 M2 _ (fun c => absurd c (by decide)) (fun _ => ?_)
  refine k_type0 (t := [119, 32]) (c := 51) rfl (by decide) (by decide) (by decide) h2 f2 (fun M3 h3 f3 => ?_)
  have h3 : RC ([119, 32, 51], p, gh, im, sn, tr) M3 := h3
  clear h2 f2
  refine sg_T_yard_0_24 M3 _ (fun c => absurd c (by decide)) (fun _ => ?_)
  refine k_type0 (t := [119, 32, 51]) (c := 59) rfl (by decide) (by decide) (by decide) h3 f3 (fun M4 h4 f4 => ?_)
  have h4 : RC ([119, 32, 51, 59], p, gh, im, sn, tr) M4 := h4
  clear h3 f3
  refine sg_T_yard_0_33 M4 _ (fun c => absurd c (by decide)) (fun _ => ?_)
  refine k_type0 (t := [119, 32, 51, 59]) (c := 114) rfl (by decide) (by decide) (by decide) h4 f4 (fun M5 h5 f5 => ?_)
  have h5 : RC ([119, 32, 51, 59, 114], p, gh, im, sn, tr) M5 := h5
  clear h4 f4
  refine sg_T_yard_0_42 M5 _ (fun c => absurd c (by decide)) (fun _ => ?_)
  refine k_type0 (t := [119, 32, 51, 59, 114]) (c := 32) rfl (by decide) (by decide) (by decide) h5 f5 (fun M6 h6 f6 => ?_)
  have h6 : RC ([119, 32, 51, 59, 114, 32], p, gh, im, sn, tr) M6 := h6
  clear h5 f5
  refine sg_T_yard_0_51 M6 _ (fun c => absurd c (by decide)) (fun _ => ?_)
  refine k_type0 (t := [119, 32, 51, 59, 114, 32]) (c := 53) rfl (by decide) (by decide) (by decide) h6 f6 (fun M7 h7 f7 => ?_)
  have h7 : RC ([119, 32, 51, 59, 114, 32, 53], p, gh, im, sn, tr) M7 := h7
  clear h6 f6
  refine sg_T_yard_0_60 M7 _ (fun c => absurd c (by decide)) (fun _ => ?_)
  refine k_type0 (t := [119, 32, 51, 59, 114, 32, 53]) (c := 32) rfl (by decide) (by decide) (by decide) h7 f7 (fun M8 h8 f8 => ?_)
  have h8 : RC ([119, 32, 51, 59, 114, 32, 53, 32], p, gh, im, sn, tr) M8 := h8
  clear h7 f7
  refine sg_T_yard_0_69 M8 _ (fun c => absurd c (by decide)) (fun _ => ?_)
  refine k_type0 (t := [119, 32, 51, 59, 114, 32, 53, 32]) (c := 52) rfl (by decide) (by decide) (by decide) h8 f8 (fun M9 h9 f9 => ?_)
  have h9 : RC ([119, 32, 51, 59, 114, 32, 53, 32, 52], p, gh, im, sn, tr) M9 := h9
  clear h8 f8
  refine sg_T_yard_0_78 M9 _ (fun c => absurd c (by decide)) (fun _ => ?_)
  refine k_type0 (t := [119, 32, 51, 59, 114, 32, 53, 32, 52]) (c := 32) rfl (by decide) (by decide) (by decide) h9 f9 (fun M10 h10 f10 => ?_)
  have h10 : RC ([119, 32, 51, 59, 114, 32, 53, 32, 52, 32], p, gh, im, sn, tr) M10 := h10
  clear h9 f9
  refine sg_T_yard_0_87 M10 _ (fun c => absurd c (by decide)) (fun _ => ?_)
  refine k_type0 (t := [119, 32, 51, 59, 114, 32, 53, 32, 52, 32]) (c := 51) rfl (by decide) (by decide) (by decide) h10 f10 (fun M11 h11 f11 => ?_)
  have h11 : RC ([119, 32, 51, 59, 114, 32, 53, 32, 52, 32, 51], p, gh, im, sn, tr) M11 := h11
  clear h10 f10
  refine sg_T_yard_0_96 M11 _ (fun c => absurd c (by decide)) (fun _ => ?_)
  refine k_type0 (t := [119, 32, 51, 59, 114, 32, 53, 32, 52, 32, 51]) (c := 59) rfl (by decide) (by decide) (by decide) h11 f11 (fun M12 h12 f12 => ?_)
  have h12 : RC ([119, 32, 51, 59, 114, 32, 53, 32, 52, 32, 51, 59], p, gh, im, sn, tr) M12 := h12
  clear h11 f11
  refine sg_T_yard_0_105 M12 _ (fun c => absurd c (by decide)) (fun _ => ?_)
  refine k_type0 (t := [119, 32, 51, 59, 114, 32, 53, 32, 52, 32, 51, 59]) (c := 114) rfl (by decide) (by decide) (by decide) h12 f12 (fun M13 h13 f13 => ?_)
  have h13 : RC ([119, 32, 51, 59, 114, 32, 53, 32, 52, 32, 51, 59, 114], p, gh, im, sn, tr) M13 := h13
  clear h12 f12
  refine sg_T_yard_0_114 M13 _ (fun c => absurd c (by decide)) (fun _ => ?_)
  refine k_type0 (t := [119, 32, 51, 59, 114, 32, 53, 32, 52, 32, 51, 59, 114]) (c := 32) rfl (by decide) (by decide) (by decide) h13 f13 (fun M14 h14 f14 => ?_)
  have h14 : RC ([119, 32, 51, 59, 114, 32, 53, 32, 52, 32, 51, 59, 114, 32], p, gh, im, sn, tr) M14 := h14
  clear h13 f13
  refine sg_T_yard_0_123 M14 _ (fun c => absurd c (by decide)) (fun _ => ?_)
  refine k_type0 (t := [119, 32, 51, 59, 114, 32, 53, 32, 52, 32, 51, 59, 114, 32]) (c := 54) rfl (by decide) (by decide) (by decide) h14 f14 (fun M15 h15 f15 => ?_)
  have h15 : RC ([119, 32, 51, 59, 114, 32, 53, 32, 52, 32, 51, 59, 114, 32, 54], p, gh, im, sn, tr) M15 := h15
  clear h14 f14
  refine sg_T_yard_0_132 M15 _ (fun c => absurd c (by decide)) (fun _ => ?_)
  refine k_type0 (t := [119, 32, 51, 59, 114, 32, 53, 32, 52, 32, 51, 59, 114, 32, 54]) (c := 32) rfl (by decide) (by decide) (by decide) h15 f15 (fun M16 h16 f16 => ?_)
  have h16 : RC ([119, 32, 51, 59, 114, 32, 53, 32, 52, 32, 51, 59, 114, 32, 54, 32], p, gh, im, sn, tr) M16 := h16
  clear h15 f15
  refine sg_T_yard_0_141 M16 _ (fun c => absurd c (by decide)) (fun _ => ?_)
  refine k_type0 (t := [119, 32, 51, 59, 114, 32, 53, 32, 52, 32, 51, 59, 114, 32, 54, 32]) (c := 50) rfl (by decide) (by decide) (by decide) h16 f16 (fun M17 h17 f17 => ?_)
  have h17 : RC ([119, 32, 51, 59, 114, 32, 53, 32, 52, 32, 51, 59, 114, 32, 54, 32, 50], p, gh, im, sn, tr) M17 := h17
  clear h16 f16
  refine sg_T_yard_0_150 M17 _ (fun c => absurd c (by decide)) (fun _ => ?_)
  refine k_type0 (t := [119, 32, 51, 59, 114, 32, 53, 32, 52, 32, 51, 59, 114, 32, 54, 32, 50]) (c := 32) rfl (by decide) (by decide) (by decide) h17 f17 (fun M18 h18 f18 => ?_)
  have h18 : RC ([119, 32, 51, 59, 114, 32, 53, 32, 52, 32, 51, 59, 114, 32, 54, 32, 50, 32], p, gh, im, sn, tr) M18 := h18
  clear h17 f17
  refine sg_T_yard_0_159 M18 _ (fun c => absurd c (by decide)) (fun _ => ?_)
  refine k_type0 (t := [119, 32, 51, 59, 114, 32, 53, 32, 52, 32, 51, 59, 114, 32, 54, 32, 50, 32]) (c := 49) rfl (by decide) (by decide) (by decide) h18 f18 (fun M19 h19 f19 => ?_)
  have h19 : RC ([119, 32, 51, 59, 114, 32, 53, 32, 52, 32, 51, 59, 114, 32, 54, 32, 50, 32, 49], p, gh, im, sn, tr) M19 := h19
  clear h18 f18
  refine sg_T_yard_0_168 M19 _ (fun c => absurd c (by decide)) (fun _ => ?_)
  refine k_type0 (t := [119, 32, 51, 59, 114, 32, 53, 32, 52, 32, 51, 59, 114, 32, 54, 32, 50, 32, 49]) (c := 59) rfl (by decide) (by decide) (by decide) h19 f19 (fun M20 h20 f20 => ?_)
  have h20 : RC ([119, 32, 51, 59, 114, 32, 53, 32, 52, 32, 51, 59, 114, 32, 54, 32, 50, 32, 49, 59], p, gh, im, sn, tr) M20 := h20
  clear h19 f19
  refine sg_T_yard_0_177 M20 _ (fun c => absurd c (by decide)) (fun _ => ?_)
  refine k_type0 (t := [119, 32, 51, 59, 114, 32, 53, 32, 52, 32, 51, 59, 114, 32, 54, 32, 50, 32, 49, 59]) (c := 114) rfl (by decide) (by decide) (by decide) h20 f20 (fun M21 h21 f21 => ?_)
  have h21 : RC ([119, 32, 51, 59, 114, 32, 53, 32, 52, 32, 51, 59, 114, 32, 54, 32, 50, 32, 49, 59, 114], p, gh, im, sn, tr) M21 := h21
  clear h20 f20
  refine sg_T_yard_0_186 M21 _ (fun c => absurd c (by decide)) (fun _ => ?_)
  refine k_type0 (t := [119, 32, 51, 59, 114, 32, 53, 32, 52, 32, 51, 59, 114, 32, 54, 32, 50, 32, 49, 59, 114]) (c := 32) rfl (by decide) (by decide) (by decide) h21 f21 (fun M22 h22 f22 => ?_)
  have h22 : RC ([119, 32, 51, 59, 114, 32, 53, 32, 52, 32, 51, 59, 114, 32, 54, 32, 50, 32, 49, 59, 114, 32], p, gh, im, sn, tr) M22 := h22
  clear h21 f21
  refine sg_T_yard_0_195 M22 _ (fun c => absurd c (by decide)) (fun _ => ?_)
  refine k_type0 (t := [119, 32, 51, 59, 114, 32, 53, 32, 52, 32, 51, 59, 114, 32, 54, 32, 50, 32, 49, 59, 114, 32]) (c := 52) rfl (by decide) (by decide) (by decide) h22 f22 (fun M23 h23 f23 => ?_)
  have h23 : RC ([119, 32, 51, 59, 114, 32, 53, 32, 52, 32, 51, 59, 114, 32, 54, 32, 50, 32, 49, 59, 114, 32, 52], p, gh, im, sn, tr) M23 := h23
  clear h22 f22
  refine sg_T_yard_0_204 M23 _ (fun c => absurd c (by decide)) (fun _ => ?_)
  refine k_type0 (t := [119, 32, 51, 59, 114, 32, 53, 32, 52, 32, 51, 59, 114, 32, 54, 32, 50, 32, 49, 59, 114, 32, 52]) (c := 32) rfl (by decide) (by decide) (by decide) h23 f23 (fun M24 h24 f24 => ?_)
  have h24 : RC ([119, 32, 51, 59, 114, 32, 53, 32, 52, 32, 51, 59, 114, 32, 54, 32, 50, 32, 49, 59, 114, 32, 52, 32], p, gh, im, sn, tr) M24 := h24
  clear h23 f23
  refine sg_T_yard_0_213 M24 _ (fun c => absurd c (by decide)) (fun _ => ?_)
  refine k_type0 (t := [119, 32, 51, 59, 114, 32, 53, 32, 52, 32, 51, 59, 114, 32, 54, 32, 50, 32, 49, 59, 114, 32, 52, 32]) (c := 57) rfl (by decide) (by decide) (by decide) h24 f24 (fun M25 h25 f25 => ?_)
  have h25 : RC ([119, 32, 51, 59, 114, 32, 53, 32, 52, 32, 51, 59, 114, 32, 54, 32, 50, 32, 49, 59, 114, 32, 52, 32, 57], p, gh, im, sn, tr) M25 := h25
  clear h24 f24
  refine sg_T_yard_0_222 M25 _ (fun c => absurd c (by decide)) (fun _ => ?_)
  refine k_type0 (t := [119, 32, 51, 59, 114, 32, 53, 32, 52, 32, 51, 59, 114, 32, 54, 32, 50, 32, 49, 59, 114, 32, 52, 32, 57]) (c := 32) rfl (by decide) (by decide) (by decide) h25 f25 (fun M26 h26 f26 => ?_)
  have h26 : RC ([119, 32, 51, 59, 114, 32, 53, 32, 52, 32, 51, 59, 114, 32, 54, 32, 50, 32, 49, 59, 114, 32, 52, 32, 57, 32], p, gh, im, sn, tr) M26 := h26
  clear h25 f25
  refine sg_T_yard_0_231 M26 _ (fun c => absurd c (by decide)) (fun _ => ?_)
  refine k_type0 (t := [119, 32, 51, 59, 114, 32, 53, 32, 52, 32, 51, 59, 114, 32, 54, 32, 50, 32, 49, 59, 114, 32, 52, 32, 57, 32]) (c := 48) rfl (by decide) (by decide) (by decide) h26 f26 (fun M27 h27 f27 => ?_)
  have h27 : RC ([119, 32, 51, 59, 114, 32, 53, 32, 52, 32, 51, 59, 114, 32, 54, 32, 50, 32, 49, 59, 114, 32, 52, 32, 57, 32, 48], p, gh, im, sn, tr) M27 := h27
  clear h26 f26
  refine sg_T_yard_0_240 M27 _ (fun c => absurd c (by decide)) (fun _ => ?_)
  refine k_type0 (t := [119, 32, 51, 59, 114, 32, 53, 32, 52, 32, 51, 59, 114, 32, 54, 32, 50, 32, 49, 59, 114, 32, 52, 32, 57, 32, 48]) (c := 59) rfl (by decide) (by decide) (by decide) h27 f27 (fun M28 h28 f28 => ?_)
  have h28 : RC ([119, 32, 51, 59, 114, 32, 53, 32, 52, 32, 51, 59, 114, 32, 54, 32, 50, 32, 49, 59, 114, 32, 52, 32, 57, 32, 48, 59], p, gh, im, sn, tr) M28 := h28
  clear h27 f27
  refine sg_T_yard_0_249 M28 _ (fun c => absurd c (by decide)) (fun _ => ?_)
  refine k_type0 (t := [119, 32, 51, 59, 114, 32, 53, 32, 52, 32, 51, 59, 114, 32, 54, 32, 50, 32, 49, 59, 114, 32, 52, 32, 57, 32, 48, 59]) (c := 108) rfl (by decide) (by decide) (by decide) h28 f28 (fun M29 h29 f29 => ?_)
  have h29 : RC ([119, 32, 51, 59, 114, 32, 53, 32, 52, 32, 51, 59, 114, 32, 54, 32, 50, 32, 49, 59, 114, 32, 52, 32, 57, 32, 48, 59, 108], p, gh, im, sn, tr) M29 := h29
  clear h28 f28
  refine sg_T_yard_0_258 M29 _ (fun c => absurd c (by decide)) (fun _ => ?_)
  refine k_type0 (t := [119, 32, 51, 59, 114, 32, 53, 32, 52, 32, 51, 59, 114, 32, 54, 32, 50, 32, 49, 59, 114, 32, 52, 32, 57, 32, 48, 59, 108]) (c := 32) rfl (by decide) (by decide) (by decide) h29 f29 (fun M30 h30 f30 => ?_)
  have h30 : RC ([119, 32, 51, 59, 114, 32, 53, 32, 52, 32, 51, 59, 114, 32, 54, 32, 50, 32, 49, 59, 114, 32, 52, 32, 57, 32, 48, 59, 108, 32], p, gh, im, sn, tr) M30 := h30
  clear h29 f29
  refine sg_T_yard_0_267 M30 _ (fun c => absurd c (by decide)) (fun _ => ?_)
  refine k_type0 (t := [119, 32, 51, 59, 114, 32, 53, 32, 52, 32, 51, 59, 114, 32, 54, 32, 50, 32, 49, 59, 114, 32, 52, 32, 57, 32, 48, 59, 108, 32]) (c := 49) rfl (by decide) (by decide) (by decide) h30 f30 (fun M31 h31 f31 => ?_)
  have h31 : RC ([119, 32, 51, 59, 114, 32, 53, 32, 52, 32, 51, 59, 114, 32, 54, 32, 50, 32, 49, 59, 114, 32, 52, 32, 57, 32, 48, 59, 108, 32, 49], p, gh, im, sn, tr) M31 := h31
  clear h30 f30
  refine sg_T_yard_0_276 M31 _ (fun c => absurd c (by decide)) (fun _ => ?_)
  refine k_type0 (t := [119, 32, 51, 59, 114, 32, 53, 32, 52, 32, 51, 59, 114, 32, 54, 32, 50, 32, 49, 59, 114, 32, 52, 32, 57, 32, 48, 59, 108, 32, 49]) (c := 32) rfl (by decide) (by decide) (by decide) h31 f31 (fun M32 h32 f32 => ?_)
  have h32 : RC ([119, 32, 51, 59, 114, 32, 53, 32, 52, 32, 51, 59, 114, 32, 54, 32, 50, 32, 49, 59, 114, 32, 52, 32, 57, 32, 48, 59, 108, 32, 49, 32], p, gh, im, sn, tr) M32 := h32
  clear h31 f31
  refine sg_T_yard_0_285 M32 _ (fun c => absurd c (by decide)) (fun _ => ?_)
  refine k_type0 (t := [119, 32, 51, 59, 114, 32, 53, 32, 52, 32, 51, 59, 114, 32, 54, 32, 50, 32, 49, 59, 114, 32, 52, 32, 57, 32, 48, 59, 108, 32, 49, 32]) (c := 49) rfl (by decide) (by decide) (by decide) h32 f32 (fun M33 h33 f33 => ?_)
  have h33 : RC ([119, 32, 51, 59, 114, 32, 53, 32, 52, 32, 51, 59, 114, 32, 54, 32, 50, 32, 49, 59, 114, 32, 52, 32, 57, 32, 48, 59, 108, 32, 49, 32, 49], p, gh, im, sn, tr) M33 := h33
  clear h32 f32
  refine sg_T_yard_0_294 M33 _ (fun c => absurd c (by decide)) (fun _ => ?_)
  refine k_type0 (t := [119, 32, 51, 59, 114, 32, 53, 32, 52, 32, 51, 59, 114, 32, 54, 32, 50, 32, 49, 59, 114, 32, 52, 32, 57, 32, 48, 59, 108, 32, 49, 32, 49]) (c := 59) rfl (by decide) (by decide) (by decide) h33 f33 (fun M34 h34 f34 => ?_)
  have h34 : RC ([119, 32, 51, 59, 114, 32, 53, 32, 52, 32, 51, 59, 114, 32, 54, 32, 50, 32, 49, 59, 114, 32, 52, 32, 57, 32, 48, 59, 108, 32, 49, 32, 49, 59], p, gh, im, sn, tr) M34 := h34
  clear h33 f33
  refine sg_T_yard_0_303 M34 _ (fun c => absurd c (by decide)) (fun _ => ?_)
  refine k_type0 (t := [119, 32, 51, 59, 114, 32, 53, 32, 52, 32, 51, 59, 114, 32, 54, 32, 50, 32, 49, 59, 114, 32, 52, 32, 57, 32, 48, 59, 108, 32, 49, 32, 49, 59]) (c := 100) rfl (by decide) (by decide) (by decide) h34 f34 (fun M35 h35 f35 => ?_)
  have h35 : RC ([119, 32, 51, 59, 114, 32, 53, 32, 52, 32, 51, 59, 114, 32, 54, 32, 50, 32, 49, 59, 114, 32, 52, 32, 57, 32, 48, 59, 108, 32, 49, 32, 49, 59, 100], p, gh, im, sn, tr) M35 := h35
  clear h34 f34
  refine sg_T_yard_0_312 M35 _ (fun c => absurd c (by decide)) (fun _ => ?_)
  refine k_type0 (t := [119, 32, 51, 59, 114, 32, 53, 32, 52, 32, 51, 59, 114, 32, 54, 32, 50, 32, 49, 59, 114, 32, 52, 32, 57, 32, 48, 59, 108, 32, 49, 32, 49, 59, 100]) (c := 32) rfl (by decide) (by decide) (by decide) h35 f35 (fun M36 h36 f36 => ?_)
  have h36 : RC ([119, 32, 51, 59, 114, 32, 53, 32, 52, 32, 51, 59, 114, 32, 54, 32, 50, 32, 49, 59, 114, 32, 52, 32, 57, 32, 48, 59, 108, 32, 49, 32, 49, 59, 100, 32], p, gh, im, sn, tr) M36 := h36
  clear h35 f35
  refine sg_T_yard_0_321 M36 _ (fun c => absurd c (by decide)) (fun _ => ?_)
  refine k_type0 (t := [119, 32, 51, 59, 114, 32, 53, 32, 52, 32, 51, 59, 114, 32, 54, 32, 50, 32, 49, 59, 114, 32, 52, 32, 57, 32, 48, 59, 108, 32, 49, 32, 49, 59, 100, 32]) (c := 50) rfl (by decide) (by decide) (by decide) h36 f36 (fun M37 h37 f37 => ?_)
  have h37 : RC ([119, 32, 51, 59, 114, 32, 53, 32, 52, 32, 51, 59, 114, 32, 54, 32, 50, 32, 49, 59, 114, 32, 52, 32, 57, 32, 48, 59, 108, 32, 49, 32, 49, 59, 100, 32, 50], p, gh, im, sn, tr) M37 := h37
  clear h36 f36
  refine sg_T_yard_0_330 M37 _ (fun c => absurd c (by decide)) (fun _ => ?_)
  refine k_type0 (t := [119, 32, 51, 59, 114, 32, 53, 32, 52, 32, 51, 59, 114, 32, 54, 32, 50, 32, 49, 59, 114, 32, 52, 32, 57, 32, 48, 59, 108, 32, 49, 32, 49, 59, 100, 32, 50]) (c := 32) rfl (by decide) (by decide) (by decide) h37 f37 (fun M38 h38 f38 => ?_)
  have h38 : RC ([119, 32, 51, 59, 114, 32, 53, 32, 52, 32, 51, 59, 114, 32, 54, 32, 50, 32, 49, 59, 114, 32, 52, 32, 57, 32, 48, 59, 108, 32, 49, 32, 49, 59, 100, 32, 50, 32], p, gh, im, sn, tr) M38 := h38
  clear h37 f37
  refine sg_T_yard_0_339 M38 _ (fun c => absurd c (by decide)) (fun _ => ?_)
  refine k_type0 (t := [119, 32, 51, 59, 114, 32, 53, 32, 52, 32, 51, 59, 114, 32, 54, 32, 50, 32, 49, 59, 114, 32, 52, 32, 57, 32, 48, 59, 108, 32, 49, 32, 49, 59, 100, 32, 50, 32]) (c := 50) rfl (by decide) (by decide) (by decide) h38 f38 (fun M39 h39 f39 => ?_)
  have h39 : RC ([119, 32, 51, 59, 114, 32, 53, 32, 52, 32, 51, 59, 114, 32, 54, 32, 50, 32, 49, 59, 114, 32, 52, 32, 57, 32, 48, 59, 108, 32, 49, 32, 49, 59, 100, 32, 50, 32, 50], p, gh, im, sn, tr) M39 := h39
  clear h38 f38
  refine sg_T_yard_0_348 M39 _ (fun c => absurd c (by decide)) (fun _ => ?_)
  refine k_type0 (t := [119, 32, 51, 59, 114, 32, 53, 32, 52, 32, 51, 59, 114, 32, 54, 32, 50, 32, 49, 59, 114, 32, 52, 32, 57, 32, 48, 59, 108, 32, 49, 32, 49, 59, 100, 32, 50, 32, 50]) (c := 59) rfl (by decide) (by decide) (by decide) h39 f39 (fun M40 h40 f40 => ?_)
  have h40 : RC ([119, 32, 51, 59, 114, 32, 53, 32, 52, 32, 51, 59, 114, 32, 54, 32, 50, 32, 49, 59, 114, 32, 52, 32, 57, 32, 48, 59, 108, 32, 49, 32, 49, 59, 100, 32, 50, 32, 50, 59], p, gh, im, sn, tr) M40 := h40
  clear h39 f39
  refine sg_T_yard_0_357 M40 _ (fun c => absurd c (by decide)) (fun _ => ?_)
  refine k_type0 (t := [119, 32, 51, 59, 114, 32, 53, 32, 52, 32, 51, 59, 114, 32, 54, 32, 50, 32, 49, 59, 114, 32, 52, 32, 57, 32, 48, 59, 108, 32, 49, 32, 49, 59, 100, 32, 50, 32, 50, 59]) (c := 111) rfl (by decide) (by decide) (by decide) h40 f40 (fun M41 h41 f41 => ?_)
  have h41 : RC ([119, 32, 51, 59, 114, 32, 53, 32, 52, 32, 51, 59, 114, 32, 54, 32, 50, 32, 49, 59, 114, 32, 52, 32, 57, 32, 48, 59, 108, 32, 49, 32, 49, 59, 100, 32, 50, 32, 50, 59, 111], p, gh, im, sn, tr) M41 := h41
  clear h40 f40
  refine sg_T_yard_0_366 M41 _ (fun c => absurd c (by decide)) (fun _ => ?_)
  refine k_type0 (t := [119, 32, 51, 59, 114, 32, 53, 32, 52, 32, 51, 59, 114, 32, 54, 32, 50, 32, 49, 59, 114, 32, 52, 32, 57, 32, 48, 59, 108, 32, 49, 32, 49, 59, 100, 32, 50, 32, 50, 59, 111]) (c := 32) rfl (by decide) (by decide) (by decide) h41 f41 (fun M42 h42 f42 => ?_)
  have h42 : RC ([119, 32, 51, 59, 114, 32, 53, 32, 52, 32, 51, 59, 114, 32, 54, 32, 50, 32, 49, 59, 114, 32, 52, 32, 57, 32, 48, 59, 108, 32, 49, 32, 49, 59, 100, 32, 50, 32, 50, 59, 111, 32], p, gh, im, sn, tr) M42 := h42
  clear h41 f41
  refine sg_T_yard_0_375 M42 _ (fun c => absurd c (by decide)) (fun _ => ?_)
  refine k_type0 (t := [119, 32, 51, 59, 114, 32, 53, 32, 52, 32, 51, 59, 114, 32, 54, 32, 50, 32, 49, 59, 114, 32, 52, 32, 57, 32, 48, 59, 108, 32, 49, 32, 49, 59, 100, 32, 50, 32, 50, 59, 111, 32]) (c := 48) rfl (by decide) (by decide) (by decide) h42 f42 (fun M43 h43 f43 => ?_)
  have h43 : RC ([119, 32, 51, 59, 114, 32, 53, 32, 52, 32, 51, 59, 114, 32, 54, 32, 50, 32, 49, 59, 114, 32, 52, 32, 57, 32, 48, 59, 108, 32, 49, 32, 49, 59, 100, 32, 50, 32, 50, 59, 111, 32, 48], p, gh, im, sn, tr) M43 := h43
  clear h42 f42
  refine sg_T_yard_0_384 M43 _ (fun c => absurd c (by decide)) (fun _ => ?_)
  refine k_type0 (t := [119, 32, 51, 59, 114, 32, 53, 32, 52, 32, 51, 59, 114, 32, 54, 32, 50, 32, 49, 59, 114, 32, 52, 32, 57, 32, 48, 59, 108, 32, 49, 32, 49, 59, 100, 32, 50, 32, 50, 59, 111, 32, 48]) (c := 32) rfl (by decide) (by decide) (by decide) h43 f43 (fun M44 h44 f44 => ?_)
  have h44 : RC ([119, 32, 51, 59, 114, 32, 53, 32, 52, 32, 51, 59, 114, 32, 54, 32, 50, 32, 49, 59, 114, 32, 52, 32, 57, 32, 48, 59, 108, 32, 49, 32, 49, 59, 100, 32, 50, 32, 50, 59, 111, 32, 48, 32], p, gh, im, sn, tr) M44 := h44
  clear h43 f43
  refine sg_T_yard_0_393 M44 _ (fun c => absurd c (by decide)) (fun _ => ?_)
  refine k_type0 (t := [119, 32, 51, 59, 114, 32, 53, 32, 52, 32, 51, 59, 114, 32, 54, 32, 50, 32, 49, 59, 114, 32, 52, 32, 57, 32, 48, 59, 108, 32, 49, 32, 49, 59, 100, 32, 50, 32, 50, 59, 111, 32, 48, 32]) (c := 50) rfl (by decide) (by decide) (by decide) h44 f44 (fun M45 h45 f45 => ?_)
  have h45 : RC ([119, 32, 51, 59, 114, 32, 53, 32, 52, 32, 51, 59, 114, 32, 54, 32, 50, 32, 49, 59, 114, 32, 52, 32, 57, 32, 48, 59, 108, 32, 49, 32, 49, 59, 100, 32, 50, 32, 50, 59, 111, 32, 48, 32, 50], p, gh, im, sn, tr) M45 := h45
  clear h44 f44
  refine sg_T_yard_0_402 M45 _ (fun c => absurd c (by decide)) (fun _ => ?_)
  refine k_type0 (t := [119, 32, 51, 59, 114, 32, 53, 32, 52, 32, 51, 59, 114, 32, 54, 32, 50, 32, 49, 59, 114, 32, 52, 32, 57, 32, 48, 59, 108, 32, 49, 32, 49, 59, 100, 32, 50, 32, 50, 59, 111, 32, 48, 32, 50]) (c := 59) rfl (by decide) (by decide) (by decide) h45 f45 (fun M46 h46 f46 => ?_)
  have h46 : RC ([119, 32, 51, 59, 114, 32, 53, 32, 52, 32, 51, 59, 114, 32, 54, 32, 50, 32, 49, 59, 114, 32, 52, 32, 57, 32, 48, 59, 108, 32, 49, 32, 49, 59, 100, 32, 50, 32, 50, 59, 111, 32, 48, 32, 50, 59], p, gh, im, sn, tr) M46 := h46
  clear h45 f45
  refine sg_T_yard_0_411 M46 _ (fun c => absurd c (by decide)) (fun _ => ?_)
  refine k_type0 (t := [119, 32, 51, 59, 114, 32, 53, 32, 52, 32, 51, 59, 114, 32, 54, 32, 50, 32, 49, 59, 114, 32, 52, 32, 57, 32, 48, 59, 108, 32, 49, 32, 49, 59, 100, 32, 50, 32, 50, 59, 111, 32, 48, 32, 50, 59]) (c := 115) rfl (by decide) (by decide) (by decide) h46 f46 (fun M47 h47 f47 => ?_)
  have h47 : RC ([119, 32, 51, 59, 114, 32, 53, 32, 52, 32, 51, 59, 114, 32, 54, 32, 50, 32, 49, 59, 114, 32, 52, 32, 57, 32, 48, 59, 108, 32, 49, 32, 49, 59, 100, 32, 50, 32, 50, 59, 111, 32, 48, 32, 50, 59, 115], p, gh, im, sn, tr) M47 := h47
  clear h46 f46
  refine sg_T_yard_0_420 M47 _ (fun c => absurd c (by decide)) (fun _ => ?_)
  refine k_type0 (t := [119, 32, 51, 59, 114, 32, 53, 32, 52, 32, 51, 59, 114, 32, 54, 32, 50, 32, 49, 59, 114, 32, 52, 32, 57, 32, 48, 59, 108, 32, 49, 32, 49, 59, 100, 32, 50, 32, 50, 59, 111, 32, 48, 32, 50, 59, 115]) (c := 32) rfl (by decide) (by decide) (by decide) h47 f47 (fun M48 h48 f48 => ?_)
  have h48 : RC ([119, 32, 51, 59, 114, 32, 53, 32, 52, 32, 51, 59, 114, 32, 54, 32, 50, 32, 49, 59, 114, 32, 52, 32, 57, 32, 48, 59, 108, 32, 49, 32, 49, 59, 100, 32, 50, 32, 50, 59, 111, 32, 48, 32, 50, 59, 115, 32], p, gh, im, sn, tr) M48 := h48
  clear h47 f47
  refine sg_T_yard_0_429 M48 _ (fun c => absurd c (by decide)) (fun _ => ?_)
  refine k_type0 (t := [119, 32, 51, 59, 114, 32, 53, 32, 52, 32, 51, 59, 114, 32, 54, 32, 50, 32, 49, 59, 114, 32, 52, 32, 57, 32, 48, 59, 108, 32, 49, 32, 49, 59, 100, 32, 50, 32, 50, 59, 111, 32, 48, 32, 50, 59, 115, 32]) (c := 49) rfl (by decide) (by decide) (by decide) h48 f48 (fun M49 h49 f49 => ?_)
  have h49 : RC ([119, 32, 51, 59, 114, 32, 53, 32, 52, 32, 51, 59, 114, 32, 54, 32, 50, 32, 49, 59, 114, 32, 52, 32, 57, 32, 48, 59, 108, 32, 49, 32, 49, 59, 100, 32, 50, 32, 50, 59, 111, 32, 48, 32, 50, 59, 115, 32, 49], p, gh, im, sn, tr) M49 := h49
  clear h48 f48
  refine sg_T_yard_0_438 M49 _ (fun c => absurd c (by decide)) (fun _ => ?_)
  refine k_type0 (t := [119, 32, 51, 59, 114, 32, 53, 32, 52, 32, 51, 59, 114, 32, 54, 32, 50, 32, 49, 59, 114, 32, 52, 32, 57, 32, 48, 59, 108, 32, 49, 32, 49, 59, 100, 32, 50, 32, 50, 59, 111, 32, 48, 32, 50, 59, 115, 32, 49]) (c := 32) rfl (by decide) (by decide) (by decide) h49 f49 (fun M50 h50 f50 => ?_)
  have h50 : RC ([119, 32, 51, 59, 114, 32, 53, 32, 52, 32, 51, 59, 114, 32, 54, 32, 50, 32, 49, 59, 114, 32, 52, 32, 57, 32, 48, 59, 108, 32, 49, 32, 49, 59, 100, 32, 50, 32, 50, 59, 111, 32, 48, 32, 50, 59, 115, 32, 49, 32], p, gh, im, sn, tr) M50 := h50
  clear h49 f49
  refine sg_T_yard_0_447 M50 _ (fun c => absurd c (by decide)) (fun _ => ?_)
  refine k_type0 (t := [119, 32, 51, 59, 114, 32, 53, 32, 52, 32, 51, 59, 114, 32, 54, 32, 50, 32, 49, 59, 114, 32, 52, 32, 57, 32, 48, 59, 108, 32, 49, 32, 49, 59, 100, 32, 50, 32, 50, 59, 111, 32, 48, 32, 50, 59, 115, 32, 49, 32]) (c := 50) rfl (by decide) (by decide) (by decide) h50 f50 (fun M51 h51 f51 => ?_)
  have h51 : RC ([119, 32, 51, 59, 114, 32, 53, 32, 52, 32, 51, 59, 114, 32, 54, 32, 50, 32, 49, 59, 114, 32, 52, 32, 57, 32, 48, 59, 108, 32, 49, 32, 49, 59, 100, 32, 50, 32, 50, 59, 111, 32, 48, 32, 50, 59, 115, 32, 49, 32, 50], p, gh, im, sn, tr) M51 := h51
  clear h50 f50
  refine sg_T_yard_0_456 M51 _ (fun c => absurd c (by decide)) (fun _ => ?_)
  refine k_type0 (t := [119, 32, 51, 59, 114, 32, 53, 32, 52, 32, 51, 59, 114, 32, 54, 32, 50, 32, 49, 59, 114, 32, 52, 32, 57, 32, 48, 59, 108, 32, 49, 32, 49, 59, 100, 32, 50, 32, 50, 59, 111, 32, 48, 32, 50, 59, 115, 32, 49, 32, 50]) (c := 32) rfl (by decide) (by decide) (by decide) h51 f51 (fun M52 h52 f52 => ?_)
  have h52 : RC ([119, 32, 51, 59, 114, 32, 53, 32, 52, 32, 51, 59, 114, 32, 54, 32, 50, 32, 49, 59, 114, 32, 52, 32, 57, 32, 48, 59, 108, 32, 49, 32, 49, 59, 100, 32, 50, 32, 50, 59, 111, 32, 48, 32, 50, 59, 115, 32, 49, 32, 50, 32], p, gh, im, sn, tr) M52 := h52
  clear h51 f51
  refine sg_T_yard_0_465 M52 _ (fun c => absurd c (by decide)) (fun _ => ?_)
  refine k_type0 (t := [119, 32, 51, 59, 114, 32, 53, 32, 52, 32, 51, 59, 114, 32, 54, 32, 50, 32, 49, 59, 114, 32, 52, 32, 57, 32, 48, 59, 108, 32, 49, 32, 49, 59, 100, 32, 50, 32, 50, 59, 111, 32, 48, 32, 50, 59, 115, 32, 49, 32, 50, 32]) (c := 50) rfl (by decide) (by decide) (by decide) h52 f52 (fun M53 h53 f53 => ?_)
  have h53 : RC ([119, 32, 51, 59, 114, 32, 53, 32, 52, 32, 51, 59, 114, 32, 54, 32, 50, 32, 49, 59, 114, 32, 52, 32, 57, 32, 48, 59, 108, 32, 49, 32, 49, 59, 100, 32, 50, 32, 50, 59, 111, 32, 48, 32, 50, 59, 115, 32, 49, 32, 50, 32, 50], p, gh, im, sn, tr) M53 := h53
  clear h52 f52
  refine sg_T_yard_0_474 M53 _ (fun c => absurd c (by decide)) (fun _ => ?_)
  refine k_type0 (t := [119, 32, 51, 59, 114, 32, 53, 32, 52, 32, 51, 59, 114, 32, 54, 32, 50, 32, 49, 59, 114, 32, 52, 32, 57, 32, 48, 59, 108, 32, 49, 32, 49, 59, 100, 32, 50, 32, 50, 59, 111, 32, 48, 32, 50, 59, 115, 32, 49, 32, 50, 32, 50]) (c := 32) rfl (by decide) (by decide) (by decide) h53 f53 (fun M54 h54 f54 => ?_)
  have h54 : RC ([119, 32, 51, 59, 114, 32, 53, 32, 52, 32, 51, 59, 114, 32, 54, 32, 50, 32, 49, 59, 114, 32, 52, 32, 57, 32, 48, 59, 108, 32, 49, 32, 49, 59, 100, 32, 50, 32, 50, 59, 111, 32, 48, 32, 50, 59, 115, 32, 49, 32, 50, 32, 50, 32], p, gh, im, sn, tr) M54 := h54
  clear h53 f53
  refine sg_T_yard_0_483 M54 _ (fun c => absurd c (by decide)) (fun _ => ?_)
  refine k_type0 (t := [119, 32, 51, 59, 114, 32, 53, 32, 52, 32, 51, 59, 114, 32, 54, 32, 50, 32, 49, 59, 114, 32, 52, 32, 57, 32, 48, 59, 108, 32, 49, 32, 49, 59, 100, 32, 50, 32, 50, 59, 111, 32, 48, 32, 50, 59, 115, 32, 49, 32, 50, 32, 50, 32]) (c := 53) rfl (by decide) (by decide) (by decide) h54 f54 (fun M55 h55 f55 => ?_)
  have h55 : RC ([119, 32, 51, 59, 114, 32, 53, 32, 52, 32, 51, 59, 114, 32, 54, 32, 50, 32, 49, 59, 114, 32, 52, 32, 57, 32, 48, 59, 108, 32, 49, 32, 49, 59, 100, 32, 50, 32, 50, 59, 111, 32, 48, 32, 50, 59, 115, 32, 49, 32, 50, 32, 50, 32, 53], p, gh, im, sn, tr) M55 := h55
  clear h54 f54
  refine sg_T_yard_0_492 M55 _ (fun c => absurd c (by decide)) (fun _ => ?_)
  refine k_type0 (t := [119, 32, 51, 59, 114, 32, 53, 32, 52, 32, 51, 59, 114, 32, 54, 32, 50, 32, 49, 59, 114, 32, 52, 32, 57, 32, 48, 59, 108, 32, 49, 32, 49, 59, 100, 32, 50, 32, 50, 59, 111, 32, 48, 32, 50, 59, 115, 32, 49, 32, 50, 32, 50, 32, 53]) (c := 59) rfl (by decide) (by decide) (by decide) h55 f55 (fun M56 h56 f56 => ?_)
  have h56 : RC ([119, 32, 51, 59, 114, 32, 53, 32, 52, 32, 51, 59, 114, 32, 54, 32, 50, 32, 49, 59, 114, 32, 52, 32, 57, 32, 48, 59, 108, 32, 49, 32, 49, 59, 100, 32, 50, 32, 50, 59, 111, 32, 48, 32, 50, 59, 115, 32, 49, 32, 50, 32, 50, 32, 53, 59], p, gh, im, sn, tr) M56 := h56
  clear h55 f55
  refine sg_T_yard_0_501 M56 _ (fun c => absurd c (by decide)) (fun _ => ?_)
  refine yard_C (t := txY) ⟨by decide, by decide⟩ rfl h56 (fun e' M' h _ _ => ?_) (fun i' d' M' h a b => ?_)
  · rw [rY_ok] at h; cases h
  · rw [rY_ok] at h
    have e : rY = (i', d') := Sum.inr.inj h
    have e8 := rY_8
    rw [e] at e8
    have e8 : i' = 8 := e8
    subst e8
    refine sg_T_yard_0_508 M' _ (fun c => absurd rfl c) (fun _ => ?_)
    refine hQ M' ?_ (f56.trans b)
    unfold yS
    rw [e]
    exact a
