def RXn : Nat → String := fun o => match o with
  | 0 => RX0
  | 1 => RX1
  | 2 => RX2
  | 3 => RX3
  | 4 => RX4
  | 5 => RX5
  | 6 => RX6
  | 7 => RX7
  | 8 => RJ6
  | 9 => RJ9
  | _ => RL
def TXn : Nat → u_T := fun o => match o with
  | 0 => TX0
  | 1 => TX1
  | 2 => TX2
  | 3 => TX3
  | 4 => TX4
  | 5 => TX5
  | 6 => TX6
  | _ => TX7
def tyn : Nat → Nat → FieldType := fun o => match o with
  | 0 => tyX0
  | 1 => tyX1
  | 2 => tyX2
  | 3 => tyX3
  | 4 => tyX4
  | 5 => tyX5
  | 6 => tyX6
  | _ => tyX7
def nXn : Nat → Nat := fun o => match o with
  | 0 => 9
  | 1 => 4
  | 2 => 6
  | 3 => 7
  | 4 => 10
  | 5 => 1
  | 6 => 12
  | _ => 0
/-- the world, a place for each cell, in the order of their making: its class (20, 21, 22: rows of int, byte, boolean), a row's length, for each field 0 (int), 1 (long), or 2 more than the place that it holds -/
def layF : Nat → Nat × Nat × List Nat := fun p => (bif Nat.blt p 37 then (bif Nat.blt p 18 then (bif Nat.blt p 9 then (bif Nat.blt p 4 then (bif Nat.blt p 2 then (bif Nat.blt p 1 then (bif Nat.beq p 0 then ((6, 0, [3, 8, 11, 18, 25, 32, 34, 35, 0, 0, 0, 1]) : Nat × Nat × List Nat) else (99, 0, [])) else (bif Nat.beq p 1 then ((4, 0, [4, 0, 5, 0, 0, 0, 0, 0, 0, 0]) : Nat × Nat × List Nat) else (99, 0, []))) else (bif Nat.blt p 3 then (bif Nat.beq p 2 then ((20, 150, []) : Nat × Nat × List Nat) else (99, 0, [])) else (bif Nat.beq p 3 then ((3, 0, [0, 0, 0, 0, 0, 6, 7]) : Nat × Nat × List Nat) else (99, 0, [])))) else (bif Nat.blt p 6 then (bif Nat.blt p 5 then (bif Nat.beq p 4 then ((20, 16, []) : Nat × Nat × List Nat) else (99, 0, [])) else (bif Nat.beq p 5 then ((20, 4, []) : Nat × Nat × List Nat) else (99, 0, []))) else (bif Nat.blt p 7 then (bif Nat.beq p 6 then ((3, 0, [0, 0, 0, 0, 0, 9, 10]) : Nat × Nat × List Nat) else (99, 0, [])) else (bif Nat.blt p 8 then (bif Nat.beq p 7 then ((20, 16, []) : Nat × Nat × List Nat) else (99, 0, [])) else (bif Nat.beq p 8 then ((20, 4, []) : Nat × Nat × List Nat) else (99, 0, [])))))) else (bif Nat.blt p 13 then (bif Nat.blt p 11 then (bif Nat.blt p 10 then (bif Nat.beq p 9 then ((0, 0, [12, 13, 14, 0, 0, 15, 16, 17, 0]) : Nat × Nat × List Nat) else (99, 0, [])) else (bif Nat.beq p 10 then ((20, 16, []) : Nat × Nat × List Nat) else (99, 0, []))) else (bif Nat.blt p 12 then (bif Nat.beq p 11 then ((20, 16, []) : Nat × Nat × List Nat) else (99, 0, [])) else (bif Nat.beq p 12 then ((20, 4, []) : Nat × Nat × List Nat) else (99, 0, [])))) else (bif Nat.blt p 15 then (bif Nat.blt p 14 then (bif Nat.beq p 13 then ((20, 10, []) : Nat × Nat × List Nat) else (99, 0, [])) else (bif Nat.beq p 14 then ((20, 10, []) : Nat × Nat × List Nat) else (99, 0, []))) else (bif Nat.blt p 16 then (bif Nat.beq p 15 then ((20, 10, []) : Nat × Nat × List Nat) else (99, 0, [])) else (bif Nat.blt p 17 then (bif Nat.beq p 16 then ((0, 0, [19, 20, 21, 0, 0, 22, 23, 24, 0]) : Nat × Nat × List Nat) else (99, 0, [])) else (bif Nat.beq p 17 then ((20, 16, []) : Nat × Nat × List Nat) else (99, 0, []))))))) else (bif Nat.blt p 27 then (bif Nat.blt p 22 then (bif Nat.blt p 20 then (bif Nat.blt p 19 then (bif Nat.beq p 18 then ((20, 16, []) : Nat × Nat × List Nat) else (99, 0, [])) else (bif Nat.beq p 19 then ((20, 4, []) : Nat × Nat × List Nat) else (99, 0, []))) else (bif Nat.blt p 21 then (bif Nat.beq p 20 then ((20, 10, []) : Nat × Nat × List Nat) else (99, 0, [])) else (bif Nat.beq p 21 then ((20, 10, []) : Nat × Nat × List Nat) else (99, 0, [])))) else (bif Nat.blt p 24 then (bif Nat.blt p 23 then (bif Nat.beq p 22 then ((20, 10, []) : Nat × Nat × List Nat) else (99, 0, [])) else (bif Nat.beq p 23 then ((0, 0, [26, 27, 28, 0, 0, 29, 30, 31, 0]) : Nat × Nat × List Nat) else (99, 0, []))) else (bif Nat.blt p 25 then (bif Nat.beq p 24 then ((20, 16, []) : Nat × Nat × List Nat) else (99, 0, [])) else (bif Nat.blt p 26 then (bif Nat.beq p 25 then ((20, 16, []) : Nat × Nat × List Nat) else (99, 0, [])) else (bif Nat.beq p 26 then ((20, 4, []) : Nat × Nat × List Nat) else (99, 0, [])))))) else (bif Nat.blt p 32 then (bif Nat.blt p 29 then (bif Nat.blt p 28 then (bif Nat.beq p 27 then ((20, 10, []) : Nat × Nat × List Nat) else (99, 0, [])) else (bif Nat.beq p 28 then ((20, 10, []) : Nat × Nat × List Nat) else (99, 0, []))) else (bif Nat.blt p 30 then (bif Nat.beq p 29 then ((20, 10, []) : Nat × Nat × List Nat) else (99, 0, [])) else (bif Nat.blt p 31 then (bif Nat.beq p 30 then ((5, 0, [33]) : Nat × Nat × List Nat) else (99, 0, [])) else (bif Nat.beq p 31 then ((20, 11, []) : Nat × Nat × List Nat) else (99, 0, []))))) else (bif Nat.blt p 34 then (bif Nat.blt p 33 then (bif Nat.beq p 32 then ((1, 0, [0, 0, 0, 0]) : Nat × Nat × List Nat) else (99, 0, [])) else (bif Nat.beq p 33 then ((2, 0, [0, 36, 37, 38, 0, 0]) : Nat × Nat × List Nat) else (99, 0, []))) else (bif Nat.blt p 35 then (bif Nat.beq p 34 then ((20, 16, []) : Nat × Nat × List Nat) else (99, 0, [])) else (bif Nat.blt p 36 then (bif Nat.beq p 35 then ((20, 16, []) : Nat × Nat × List Nat) else (99, 0, [])) else (bif Nat.beq p 36 then ((20, 4, []) : Nat × Nat × List Nat) else (99, 0, [])))))))) else (bif Nat.blt p 55 then (bif Nat.blt p 46 then (bif Nat.blt p 41 then (bif Nat.blt p 39 then (bif Nat.blt p 38 then (bif Nat.beq p 37 then ((6, 0, [40, 45, 48, 55, 62, 69, 71, 72, 0, 0, 0, 1]) : Nat × Nat × List Nat) else (99, 0, [])) else (bif Nat.beq p 38 then ((4, 0, [41, 0, 42, 0, 0, 0, 0, 0, 0, 0]) : Nat × Nat × List Nat) else (99, 0, []))) else (bif Nat.blt p 40 then (bif Nat.beq p 39 then ((20, 150, []) : Nat × Nat × List Nat) else (99, 0, [])) else (bif Nat.beq p 40 then ((3, 0, [0, 0, 0, 0, 0, 43, 44]) : Nat × Nat × List Nat) else (99, 0, [])))) else (bif Nat.blt p 43 then (bif Nat.blt p 42 then (bif Nat.beq p 41 then ((20, 16, []) : Nat × Nat × List Nat) else (99, 0, [])) else (bif Nat.beq p 42 then ((20, 4, []) : Nat × Nat × List Nat) else (99, 0, []))) else (bif Nat.blt p 44 then (bif Nat.beq p 43 then ((3, 0, [0, 0, 0, 0, 0, 46, 47]) : Nat × Nat × List Nat) else (99, 0, [])) else (bif Nat.blt p 45 then (bif Nat.beq p 44 then ((20, 16, []) : Nat × Nat × List Nat) else (99, 0, [])) else (bif Nat.beq p 45 then ((20, 4, []) : Nat × Nat × List Nat) else (99, 0, [])))))) else (bif Nat.blt p 50 then (bif Nat.blt p 48 then (bif Nat.blt p 47 then (bif Nat.beq p 46 then ((0, 0, [49, 50, 51, 0, 0, 52, 53, 54, 0]) : Nat × Nat × List Nat) else (99, 0, [])) else (bif Nat.beq p 47 then ((20, 16, []) : Nat × Nat × List Nat) else (99, 0, []))) else (bif Nat.blt p 49 then (bif Nat.beq p 48 then ((20, 16, []) : Nat × Nat × List Nat) else (99, 0, [])) else (bif Nat.beq p 49 then ((20, 4, []) : Nat × Nat × List Nat) else (99, 0, [])))) else (bif Nat.blt p 52 then (bif Nat.blt p 51 then (bif Nat.beq p 50 then ((20, 10, []) : Nat × Nat × List Nat) else (99, 0, [])) else (bif Nat.beq p 51 then ((20, 10, []) : Nat × Nat × List Nat) else (99, 0, []))) else (bif Nat.blt p 53 then (bif Nat.beq p 52 then ((20, 10, []) : Nat × Nat × List Nat) else (99, 0, [])) else (bif Nat.blt p 54 then (bif Nat.beq p 53 then ((0, 0, [56, 57, 58, 0, 0, 59, 60, 61, 0]) : Nat × Nat × List Nat) else (99, 0, [])) else (bif Nat.beq p 54 then ((20, 16, []) : Nat × Nat × List Nat) else (99, 0, []))))))) else (bif Nat.blt p 64 then (bif Nat.blt p 59 then (bif Nat.blt p 57 then (bif Nat.blt p 56 then (bif Nat.beq p 55 then ((20, 16, []) : Nat × Nat × List Nat) else (99, 0, [])) else (bif Nat.beq p 56 then ((20, 4, []) : Nat × Nat × List Nat) else (99, 0, []))) else (bif Nat.blt p 58 then (bif Nat.beq p 57 then ((20, 10, []) : Nat × Nat × List Nat) else (99, 0, [])) else (bif Nat.beq p 58 then ((20, 10, []) : Nat × Nat × List Nat) else (99, 0, [])))) else (bif Nat.blt p 61 then (bif Nat.blt p 60 then (bif Nat.beq p 59 then ((20, 10, []) : Nat × Nat × List Nat) else (99, 0, [])) else (bif Nat.beq p 60 then ((0, 0, [63, 64, 65, 0, 0, 66, 67, 68, 0]) : Nat × Nat × List Nat) else (99, 0, []))) else (bif Nat.blt p 62 then (bif Nat.beq p 61 then ((20, 16, []) : Nat × Nat × List Nat) else (99, 0, [])) else (bif Nat.blt p 63 then (bif Nat.beq p 62 then ((20, 16, []) : Nat × Nat × List Nat) else (99, 0, [])) else (bif Nat.beq p 63 then ((20, 4, []) : Nat × Nat × List Nat) else (99, 0, [])))))) else (bif Nat.blt p 69 then (bif Nat.blt p 66 then (bif Nat.blt p 65 then (bif Nat.beq p 64 then ((20, 10, []) : Nat × Nat × List Nat) else (99, 0, [])) else (bif Nat.beq p 65 then ((20, 10, []) : Nat × Nat × List Nat) else (99, 0, []))) else (bif Nat.blt p 67 then (bif Nat.beq p 66 then ((20, 10, []) : Nat × Nat × List Nat) else (99, 0, [])) else (bif Nat.blt p 68 then (bif Nat.beq p 67 then ((5, 0, [70]) : Nat × Nat × List Nat) else (99, 0, [])) else (bif Nat.beq p 68 then ((20, 11, []) : Nat × Nat × List Nat) else (99, 0, []))))) else (bif Nat.blt p 71 then (bif Nat.blt p 70 then (bif Nat.beq p 69 then ((1, 0, [0, 0, 0, 0]) : Nat × Nat × List Nat) else (99, 0, [])) else (bif Nat.beq p 70 then ((2, 0, [0, 73, 74, 75, 0, 0]) : Nat × Nat × List Nat) else (99, 0, []))) else (bif Nat.blt p 72 then (bif Nat.beq p 71 then ((20, 16, []) : Nat × Nat × List Nat) else (99, 0, [])) else (bif Nat.blt p 73 then (bif Nat.beq p 72 then ((20, 16, []) : Nat × Nat × List Nat) else (99, 0, [])) else (bif Nat.beq p 73 then ((20, 4, []) : Nat × Nat × List Nat) else (99, 0, [])))))))))
def nPl : Nat := 74
def stN : Nat → String := fun j => match j with
  | 0 => "SHAPES"
  | 1 => "WIDTHS"
  | 2 => "JOINED_RIGHT"
  | _ => "JOINED_DOWN"
def stV : Nat → Nat → Int32 := fun j => match j with
  | 0 => fun k => ([51, 3, 17, 1] : List Int32).getD k 0
  | 1 => fun k => ([2, 2, 1, 1] : List Int32).getD k 0
  | 2 => fun k => ([17, 1, 0, 0] : List Int32).getD k 0
  | _ => fun k => ([3, 0, 1, 0] : List Int32).getD k 0
def fldR : Nat → Option (Nat × Nat) := fun k => (bif Nat.blt k 6283 then (bif Nat.blt k 4048 then (bif Nat.blt k 2022 then (bif Nat.blt k 38 then (bif Nat.blt k 24 then (bif Nat.blt k 18 then (bif Nat.blt k 15 then (bif Nat.beq k 9 then some (0, 0) else none) else (bif Nat.beq k 15 then some (0, 1) else none)) else (bif Nat.blt k 21 then (bif Nat.beq k 18 then some (0, 2) else none) else (bif Nat.beq k 21 then some (0, 5) else none))) else (bif Nat.blt k 30 then (bif Nat.blt k 27 then (bif Nat.beq k 24 then some (0, 6) else none) else (bif Nat.beq k 27 then some (0, 7) else none)) else (bif Nat.blt k 33 then (bif Nat.beq k 30 then some (3, 5) else none) else (bif Nat.blt k 34 then (bif Nat.beq k 33 then some (3, 6) else none) else (bif Nat.beq k 34 then some (0, 3) else none))))) else (bif Nat.blt k 1033 then (bif Nat.blt k 1009 then (bif Nat.blt k 41 then (bif Nat.beq k 38 then some (0, 4) else none) else (bif Nat.beq k 41 then some (0, 8) else none)) else (bif Nat.blt k 1015 then (bif Nat.beq k 1009 then some (1, 0) else none) else (bif Nat.blt k 1018 then (bif Nat.beq k 1015 then some (1, 1) else none) else (bif Nat.beq k 1018 then some (1, 3) else none)))) else (bif Nat.blt k 2009 then (bif Nat.blt k 1043 then (bif Nat.beq k 1033 then some (1, 2) else none) else (bif Nat.beq k 1043 then some (5, 0) else none)) else (bif Nat.blt k 2015 then (bif Nat.beq k 2009 then some (2, 0) else none) else (bif Nat.blt k 2019 then (bif Nat.beq k 2015 then some (2, 1) else none) else (bif Nat.beq k 2019 then some (2, 2) else none)))))) else (bif Nat.blt k 3031 then (bif Nat.blt k 3009 then (bif Nat.blt k 2048 then (bif Nat.blt k 2046 then (bif Nat.beq k 2022 then some (2, 3) else none) else (bif Nat.beq k 2046 then some (2, 4) else none)) else (bif Nat.blt k 2051 then (bif Nat.beq k 2048 then some (2, 5) else none) else (bif Nat.beq k 2051 then some (0, 2) else none))) else (bif Nat.blt k 3021 then (bif Nat.blt k 3015 then (bif Nat.beq k 3009 then some (3, 5) else none) else (bif Nat.beq k 3015 then some (3, 6) else none)) else (bif Nat.blt k 3025 then (bif Nat.beq k 3021 then some (3, 0) else none) else (bif Nat.blt k 3028 then (bif Nat.beq k 3025 then some (3, 1) else none) else (bif Nat.beq k 3028 then some (3, 2) else none))))) else (bif Nat.blt k 4029 then (bif Nat.blt k 4009 then (bif Nat.blt k 3034 then (bif Nat.beq k 3031 then some (3, 3) else none) else (bif Nat.beq k 3034 then some (3, 4) else none)) else (bif Nat.blt k 4018 then (bif Nat.beq k 4009 then some (4, 0) else none) else (bif Nat.blt k 4022 then (bif Nat.beq k 4018 then some (4, 2) else none) else (bif Nat.beq k 4022 then some (4, 1) else none)))) else (bif Nat.blt k 4036 then (bif Nat.blt k 4032 then (bif Nat.beq k 4029 then some (4, 3) else none) else (bif Nat.beq k 4032 then some (4, 7) else none)) else (bif Nat.blt k 4039 then (bif Nat.beq k 4036 then some (4, 8) else none) else (bif Nat.blt k 4045 then (bif Nat.beq k 4039 then some (4, 9) else none) else (bif Nat.beq k 4045 then some (4, 5) else none))))))) else (bif Nat.blt k 6053 then (bif Nat.blt k 5011 then (bif Nat.blt k 4088 then (bif Nat.blt k 4058 then (bif Nat.blt k 4055 then (bif Nat.beq k 4048 then some (4, 6) else none) else (bif Nat.beq k 4055 then some (4, 4) else none)) else (bif Nat.blt k 4065 then (bif Nat.beq k 4058 then some (3, 0) else none) else (bif Nat.beq k 4065 then some (3, 1) else none))) else (bif Nat.blt k 4098 then (bif Nat.blt k 4091 then (bif Nat.beq k 4088 then some (3, 5) else none) else (bif Nat.beq k 4091 then some (3, 2) else none)) else (bif Nat.blt k 4101 then (bif Nat.beq k 4098 then some (3, 3) else none) else (bif Nat.blt k 4104 then (bif Nat.beq k 4101 then some (3, 4) else none) else (bif Nat.beq k 4104 then some (3, 6) else none))))) else (bif Nat.blt k 6026 then (bif Nat.blt k 5025 then (bif Nat.blt k 5021 then (bif Nat.beq k 5011 then some (5, 0) else none) else (bif Nat.beq k 5021 then some (3, 4) else none)) else (bif Nat.blt k 6010 then (bif Nat.beq k 5025 then some (0, 0) else none) else (bif Nat.blt k 6019 then (bif Nat.beq k 6010 then some (6, 0) else none) else (bif Nat.beq k 6019 then some (6, 1) else none)))) else (bif Nat.blt k 6033 then (bif Nat.blt k 6030 then (bif Nat.beq k 6026 then some (6, 2) else none) else (bif Nat.beq k 6030 then some (6, 3) else none)) else (bif Nat.blt k 6039 then (bif Nat.beq k 6033 then some (6, 4) else none) else (bif Nat.blt k 6046 then (bif Nat.beq k 6039 then some (6, 5) else none) else (bif Nat.beq k 6046 then some (6, 6) else none)))))) else (bif Nat.blt k 6208 then (bif Nat.blt k 6085 then (bif Nat.blt k 6069 then (bif Nat.blt k 6061 then (bif Nat.beq k 6053 then some (6, 7) else none) else (bif Nat.beq k 6061 then some (4, 1) else none)) else (bif Nat.blt k 6079 then (bif Nat.beq k 6069 then some (4, 2) else none) else (bif Nat.blt k 6082 then (bif Nat.beq k 6079 then some (6, 8) else none) else (bif Nat.beq k 6082 then some (6, 9) else none)))) else (bif Nat.blt k 6133 then (bif Nat.blt k 6115 then (bif Nat.beq k 6085 then some (6, 10) else none) else (bif Nat.beq k 6115 then some (0, 2) else none)) else (bif Nat.blt k 6142 then (bif Nat.beq k 6133 then some (3, 4) else none) else (bif Nat.blt k 6152 then (bif Nat.beq k 6142 then some (0, 4) else none) else (bif Nat.beq k 6152 then some (0, 8) else none))))) else (bif Nat.blt k 6232 then (bif Nat.blt k 6218 then (bif Nat.blt k 6215 then (bif Nat.beq k 6208 then some (3, 3) else none) else (bif Nat.beq k 6215 then some (1, 0) else none)) else (bif Nat.blt k 6221 then (bif Nat.beq k 6218 then some (1, 1) else none) else (bif Nat.blt k 6229 then (bif Nat.beq k 6221 then some (1, 2) else none) else (bif Nat.beq k 6229 then some (2, 0) else none)))) else (bif Nat.blt k 6276 then (bif Nat.blt k 6235 then (bif Nat.beq k 6232 then some (2, 1) else none) else (bif Nat.beq k 6235 then some (3, 2) else none)) else (bif Nat.blt k 6279 then (bif Nat.beq k 6276 then some (3, 0) else none) else (bif Nat.blt k 6282 then (bif Nat.beq k 6279 then some (3, 1) else none) else (bif Nat.beq k 6282 then some (6, 11) else none)))))))) else none)
def fldP : Nat → Nat := fun k => (bif Nat.blt k 4048 then (bif Nat.blt k 2022 then (bif Nat.blt k 38 then (bif Nat.blt k 24 then (bif Nat.blt k 18 then (bif Nat.blt k 15 then (bif Nat.beq k 9 then 121 else 0) else (bif Nat.beq k 15 then 123 else 0)) else (bif Nat.blt k 21 then (bif Nat.beq k 18 then 124 else 0) else (bif Nat.beq k 21 then 130 else 0))) else (bif Nat.blt k 30 then (bif Nat.blt k 27 then (bif Nat.beq k 24 then 131 else 0) else (bif Nat.beq k 27 then 132 else 0)) else (bif Nat.blt k 33 then (bif Nat.beq k 30 then 59 else 0) else (bif Nat.blt k 34 then (bif Nat.beq k 33 then 62 else 0) else (bif Nat.beq k 34 then 127 else 0))))) else (bif Nat.blt k 1033 then (bif Nat.blt k 1009 then (bif Nat.blt k 41 then (bif Nat.beq k 38 then 128 else 0) else (bif Nat.beq k 41 then 133 else 0)) else (bif Nat.blt k 1015 then (bif Nat.beq k 1009 then 171 else 0) else (bif Nat.blt k 1018 then (bif Nat.beq k 1015 then 173 else 0) else (bif Nat.beq k 1018 then 177 else 0)))) else (bif Nat.blt k 2009 then (bif Nat.blt k 1043 then (bif Nat.beq k 1033 then 175 else 0) else (bif Nat.beq k 1043 then 161 else 0)) else (bif Nat.blt k 2015 then (bif Nat.beq k 2009 then 193 else 0) else (bif Nat.blt k 2019 then (bif Nat.beq k 2015 then 195 else 0) else (bif Nat.beq k 2019 then 197 else 0)))))) else (bif Nat.blt k 3031 then (bif Nat.blt k 3009 then (bif Nat.blt k 2048 then (bif Nat.blt k 2046 then (bif Nat.beq k 2022 then 198 else 0) else (bif Nat.beq k 2046 then 199 else 0)) else (bif Nat.blt k 2051 then (bif Nat.beq k 2048 then 200 else 0) else (bif Nat.beq k 2051 then 125 else 0))) else (bif Nat.blt k 3021 then (bif Nat.blt k 3015 then (bif Nat.beq k 3009 then 58 else 0) else (bif Nat.beq k 3015 then 61 else 0)) else (bif Nat.blt k 3025 then (bif Nat.beq k 3021 then 42 else 0) else (bif Nat.blt k 3028 then (bif Nat.beq k 3025 then 45 else 0) else (bif Nat.beq k 3028 then 48 else 0))))) else (bif Nat.blt k 4029 then (bif Nat.blt k 4009 then (bif Nat.blt k 3034 then (bif Nat.beq k 3031 then 51 else 0) else (bif Nat.beq k 3034 then 54 else 0)) else (bif Nat.blt k 4018 then (bif Nat.beq k 4009 then 80 else 0) else (bif Nat.blt k 4022 then (bif Nat.beq k 4018 then 83 else 0) else (bif Nat.beq k 4022 then 81 else 0)))) else (bif Nat.blt k 4036 then (bif Nat.blt k 4032 then (bif Nat.beq k 4029 then 85 else 0) else (bif Nat.beq k 4032 then 89 else 0)) else (bif Nat.blt k 4039 then (bif Nat.beq k 4036 then 90 else 0) else (bif Nat.blt k 4045 then (bif Nat.beq k 4039 then 91 else 0) else (bif Nat.beq k 4045 then 87 else 0))))))) else (bif Nat.blt k 6053 then (bif Nat.blt k 5011 then (bif Nat.blt k 4088 then (bif Nat.blt k 4058 then (bif Nat.blt k 4055 then (bif Nat.beq k 4048 then 88 else 0) else (bif Nat.beq k 4055 then 86 else 0)) else (bif Nat.blt k 4065 then (bif Nat.beq k 4058 then 43 else 0) else (bif Nat.beq k 4065 then 46 else 0))) else (bif Nat.blt k 4098 then (bif Nat.blt k 4091 then (bif Nat.beq k 4088 then 60 else 0) else (bif Nat.beq k 4091 then 49 else 0)) else (bif Nat.blt k 4101 then (bif Nat.beq k 4098 then 52 else 0) else (bif Nat.blt k 4104 then (bif Nat.beq k 4101 then 56 else 0) else (bif Nat.beq k 4104 then 63 else 0))))) else (bif Nat.blt k 6026 then (bif Nat.blt k 5025 then (bif Nat.blt k 5021 then (bif Nat.beq k 5011 then 160 else 0) else (bif Nat.beq k 5021 then 55 else 0)) else (bif Nat.blt k 6010 then (bif Nat.beq k 5025 then 122 else 0) else (bif Nat.blt k 6019 then (bif Nat.beq k 6010 then 214 else 0) else (bif Nat.beq k 6019 then 215 else 0)))) else (bif Nat.blt k 6033 then (bif Nat.blt k 6030 then (bif Nat.beq k 6026 then 216 else 0) else (bif Nat.beq k 6030 then 217 else 0)) else (bif Nat.blt k 6039 then (bif Nat.beq k 6033 then 218 else 0) else (bif Nat.blt k 6046 then (bif Nat.beq k 6039 then 219 else 0) else (bif Nat.beq k 6046 then 220 else 0)))))) else (bif Nat.blt k 6208 then (bif Nat.blt k 6085 then (bif Nat.blt k 6069 then (bif Nat.blt k 6061 then (bif Nat.beq k 6053 then 221 else 0) else (bif Nat.beq k 6061 then 82 else 0)) else (bif Nat.blt k 6079 then (bif Nat.beq k 6069 then 84 else 0) else (bif Nat.blt k 6082 then (bif Nat.beq k 6079 then 222 else 0) else (bif Nat.beq k 6082 then 223 else 0)))) else (bif Nat.blt k 6133 then (bif Nat.blt k 6115 then (bif Nat.beq k 6085 then 224 else 0) else (bif Nat.beq k 6115 then 126 else 0)) else (bif Nat.blt k 6142 then (bif Nat.beq k 6133 then 57 else 0) else (bif Nat.blt k 6152 then (bif Nat.beq k 6142 then 129 else 0) else (bif Nat.beq k 6152 then 134 else 0))))) else (bif Nat.blt k 6232 then (bif Nat.blt k 6218 then (bif Nat.blt k 6215 then (bif Nat.beq k 6208 then 53 else 0) else (bif Nat.beq k 6215 then 172 else 0)) else (bif Nat.blt k 6221 then (bif Nat.beq k 6218 then 174 else 0) else (bif Nat.blt k 6229 then (bif Nat.beq k 6221 then 176 else 0) else (bif Nat.beq k 6229 then 194 else 0)))) else (bif Nat.blt k 6276 then (bif Nat.blt k 6235 then (bif Nat.beq k 6232 then 196 else 0) else (bif Nat.beq k 6235 then 50 else 0)) else (bif Nat.blt k 6279 then (bif Nat.beq k 6276 then 44 else 0) else (bif Nat.blt k 6282 then (bif Nat.beq k 6279 then 47 else 0) else (bif Nat.beq k 6282 then 225 else 0))))))))
def sttR : Nat → Option (Nat × Bool) := fun k => (bif Nat.blt k 6305 then (bif Nat.blt k 6168 then (bif Nat.blt k 2038 then (bif Nat.blt k 2031 then (bif Nat.beq k 84 then some (0, true) else none) else (bif Nat.beq k 2031 then some (2, true) else none)) else (bif Nat.blt k 2079 then (bif Nat.beq k 2038 then some (3, true) else none) else (bif Nat.beq k 2079 then some (0, true) else none))) else (bif Nat.blt k 6301 then (bif Nat.blt k 6175 then (bif Nat.beq k 6168 then some (2, false) else none) else (bif Nat.beq k 6175 then some (3, false) else none)) else (bif Nat.blt k 6304 then (bif Nat.beq k 6301 then some (1, false) else none) else (bif Nat.beq k 6304 then some (0, false) else none)))) else none)
def sttP : Nat → Nat := fun k => (bif Nat.blt k 6168 then (bif Nat.blt k 2038 then (bif Nat.blt k 2031 then (bif Nat.beq k 84 then 270 else 0) else (bif Nat.beq k 2031 then 531 else 0)) else (bif Nat.blt k 2079 then (bif Nat.beq k 2038 then 533 else 0) else (bif Nat.beq k 2079 then 552 else 0))) else (bif Nat.blt k 6301 then (bif Nat.blt k 6175 then (bif Nat.beq k 6168 then 476 else 0) else (bif Nat.beq k 6175 then 479 else 0)) else (bif Nat.blt k 6304 then (bif Nat.beq k 6301 then 330 else 0) else (bif Nat.beq k 6304 then 332 else 0))))
def cstR : Nat → Option Int32 := fun k => (bif Nat.blt k 10061 then (bif Nat.blt k 8266 then (bif Nat.blt k 6300 then (bif Nat.blt k 6299 then (bif Nat.beq k 6250 then some (-1000000) else none) else (bif Nat.beq k 6299 then some (61166) else none)) else (bif Nat.blt k 8265 then (bif Nat.beq k 6300 then some (65535) else none) else (bif Nat.beq k 8265 then some (1431655765) else none))) else (bif Nat.blt k 10007 then (bif Nat.blt k 8267 then (bif Nat.beq k 8266 then some (858993459) else none) else (bif Nat.beq k 8267 then some (252645135) else none)) else (bif Nat.blt k 10008 then (bif Nat.beq k 10007 then some (747796405) else none) else (bif Nat.blt k 10060 then (bif Nat.beq k 10008 then some (2147483647) else none) else (bif Nat.beq k 10060 then some (-1000000) else none))))) else none)
def cstP : Nat → Nat := fun k => (bif Nat.blt k 8266 then (bif Nat.blt k 6300 then (bif Nat.blt k 6299 then (bif Nat.beq k 6250 then 580 else 0) else (bif Nat.beq k 6299 then 408 else 0)) else (bif Nat.blt k 8265 then (bif Nat.beq k 6300 then 409 else 0) else (bif Nat.beq k 8265 then 424 else 0))) else (bif Nat.blt k 10007 then (bif Nat.blt k 8267 then (bif Nat.beq k 8266 then 425 else 0) else (bif Nat.beq k 8267 then 426 else 0)) else (bif Nat.blt k 10008 then (bif Nat.beq k 10007 then 439 else 0) else (bif Nat.blt k 10060 then (bif Nat.beq k 10008 then 443 else 0) else (bif Nat.beq k 10060 then 610 else 0)))))
def cslR : Nat → Option Int64 := fun k => (bif Nat.blt k 6295 then (bif Nat.blt k 6290 then (bif Nat.blt k 6288 then (bif Nat.beq k 6286 then some (10) else none) else (bif Nat.beq k 6288 then some (100) else none)) else (bif Nat.blt k 6292 then (bif Nat.beq k 6290 then some (1000) else none) else (bif Nat.blt k 6294 then (bif Nat.beq k 6292 then some (10000) else none) else (bif Nat.beq k 6294 then some (100000) else none)))) else none)
def cslP : Nat → Nat := fun k => (bif Nat.blt k 6290 then (bif Nat.blt k 6288 then (bif Nat.beq k 6286 then 589 else 0) else (bif Nat.beq k 6288 then 594 else 0)) else (bif Nat.blt k 6292 then (bif Nat.beq k 6290 then 599 else 0) else (bif Nat.blt k 6294 then (bif Nat.beq k 6292 then 604 else 0) else (bif Nat.beq k 6294 then 609 else 0))))
def gTbl : List Cond := lw_tbl.filter goodWord
theorem gT_at {i : Nat} {w : Cond} (h : lw_tbl[i]? = some w) (hg : goodWord w = true) : w ∈ gTbl := List.mem_filter.mpr ⟨List.mem_of_getElem? h, hg⟩
def inAt (i : Nat) (w : Cond) : Bool := decide (lw_tbl[i]? = some w)
theorem inAt_lw {i : Nat} {w : Cond} (h : inAt i w = true) : w ∈ lw_tbl := List.mem_of_getElem? (of_decide_eq_true h)
theorem inAt_g {i : Nat} {w : Cond} (h : inAt i w = true) (hg : goodWord w = true) : w ∈ gTbl := gT_at (of_decide_eq_true h) hg
def fldK : List Nat := [9, 15, 18, 21, 24, 27, 30, 33, 34, 38, 41, 1009, 1015, 1018, 1033, 1043, 2009, 2015, 2019, 2022, 2046, 2048, 2051, 3009, 3015, 3021, 3025, 3028, 3031, 3034, 4009, 4018, 4022, 4029, 4032, 4036, 4039, 4045, 4048, 4055, 4058, 4065, 4088, 4091, 4098, 4101, 4104, 5011, 5021, 5025, 6010, 6019, 6026, 6030, 6033, 6039, 6046, 6053, 6061, 6069, 6079, 6082, 6085, 6115, 6133, 6142, 6152, 6208, 6215, 6218, 6221, 6229, 6232, 6235, 6276, 6279, 6282]
def fldC (k : Nat) : Bool := match fldR k with | none => true | some r => inAt (fldP k) (.fieldLink (RXn (k / 1000)) (k % 1000) (TXn r.1 r.2).1 (TXn r.1 r.2).2.1 (TXn r.1 r.2).2.2.1) && decide (r.1 < 7) && decide (r.2 < nXn r.1)
def sttC (k : Nat) : Bool := match sttR k with | none => true | some r => (bif r.2 then inAt (sttP k) (.fieldLinkNest (RXn (k / 1000)) (k % 1000) "SlabYard" (stN r.1) "[I" "SlabYard") else inAt (sttP k) (.fieldLink (RXn (k / 1000)) (k % 1000) "SlabYard" (stN r.1) "[I")) && decide (r.1 < 4)
def cstC (k : Nat) : Bool := match cstR k with | none => true | some v => inAt (cstP k) (.constant (RXn (k / 1000)) (k % 1000) v)
def cslC (k : Nat) : Bool := match cslR k with | none => true | some v => inAt (cslP k) (.constantLong (RXn (k / 1000)) (k % 1000) v)
set_option maxRecDepth 100000 in
theorem fld_all : (List.range 6283).all fldC = true := by decide +kernel
theorem fld_ok (k : Nat) : fldC k = true := by
  by_cases hk : k < 6283
  · exact List.all_eq_true.mp fld_all k (List.mem_range.mpr hk)
  · have hb : Nat.blt k 6283 = false := by
      cases h : Nat.blt k 6283 with
      | false => rfl
      | true => exact absurd (Nat.le_of_ble_eq_true h) hk
    have hn : fldR k = none := by unfold fldR; rw [hb]; rfl
    unfold fldC
    rw [hn]
set_option maxRecDepth 100000 in
theorem stt_all : (List.range 6305).all sttC = true := by decide +kernel
theorem stt_ok (k : Nat) : sttC k = true := by
  by_cases hk : k < 6305
  · exact List.all_eq_true.mp stt_all k (List.mem_range.mpr hk)
  · have hb : Nat.blt k 6305 = false := by
      cases h : Nat.blt k 6305 with
      | false => rfl
      | true => exact absurd (Nat.le_of_ble_eq_true h) hk
    have hn : sttR k = none := by unfold sttR; rw [hb]; rfl
    unfold sttC
    rw [hn]
set_option maxRecDepth 100000 in
theorem cst_all : (List.range 10061).all cstC = true := by decide +kernel
theorem cst_ok (k : Nat) : cstC k = true := by
  by_cases hk : k < 10061
  · exact List.all_eq_true.mp cst_all k (List.mem_range.mpr hk)
  · have hb : Nat.blt k 10061 = false := by
      cases h : Nat.blt k 10061 with
      | false => rfl
      | true => exact absurd (Nat.le_of_ble_eq_true h) hk
    have hn : cstR k = none := by unfold cstR; rw [hb]; rfl
    unfold cstC
    rw [hn]
set_option maxRecDepth 100000 in
theorem csl_all : (List.range 6295).all cslC = true := by decide +kernel
theorem csl_ok (k : Nat) : cslC k = true := by
  by_cases hk : k < 6295
  · exact List.all_eq_true.mp csl_all k (List.mem_range.mpr hk)
  · have hb : Nat.blt k 6295 = false := by
      cases h : Nat.blt k 6295 with
      | false => rfl
      | true => exact absurd (Nat.le_of_ble_eq_true h) hk
    have hn : cslR k = none := by unfold cslR; rw [hb]; rfl
    unfold cslC
    rw [hn]
set_option maxRecDepth 100000 in
theorem uws0 : u_ws RX0 TX0 9 = [135, 137, 139, 141, 143, 145, 147, 149, 151].filterMap (fun i => lw_tbl[i]?) := by decide +kernel
set_option maxRecDepth 100000 in
theorem uwg0 : (u_ws RX0 TX0 9).all goodWord = true := by decide +kernel
set_option maxRecDepth 100000 in
theorem uws1 : u_ws RX1 TX1 4 = [178, 180, 182, 184].filterMap (fun i => lw_tbl[i]?) := by decide +kernel
set_option maxRecDepth 100000 in
theorem uwg1 : (u_ws RX1 TX1 4).all goodWord = true := by decide +kernel
set_option maxRecDepth 100000 in
theorem uws2 : u_ws RX2 TX2 6 = [201, 203, 205, 207, 209, 211].filterMap (fun i => lw_tbl[i]?) := by decide +kernel
set_option maxRecDepth 100000 in
theorem uwg2 : (u_ws RX2 TX2 6).all goodWord = true := by decide +kernel
set_option maxRecDepth 100000 in
theorem uws3 : u_ws RX3 TX3 7 = [64, 66, 68, 70, 72, 74, 76].filterMap (fun i => lw_tbl[i]?) := by decide +kernel
set_option maxRecDepth 100000 in
theorem uwg3 : (u_ws RX3 TX3 7).all goodWord = true := by decide +kernel
set_option maxRecDepth 100000 in
theorem uws4 : u_ws RX4 TX4 10 = [92, 94, 96, 98, 100, 102, 104, 106, 108, 110].filterMap (fun i => lw_tbl[i]?) := by decide +kernel
set_option maxRecDepth 100000 in
theorem uwg4 : (u_ws RX4 TX4 10).all goodWord = true := by decide +kernel
set_option maxRecDepth 100000 in
theorem uws5 : u_ws RX5 TX5 1 = [162].filterMap (fun i => lw_tbl[i]?) := by decide +kernel
set_option maxRecDepth 100000 in
theorem uwg5 : (u_ws RX5 TX5 1).all goodWord = true := by decide +kernel
set_option maxRecDepth 100000 in
theorem uws6 : u_ws RX6 TX6 12 = [226, 228, 230, 232, 234, 236, 238, 240, 242, 244, 246, 248].filterMap (fun i => lw_tbl[i]?) := by decide +kernel
set_option maxRecDepth 100000 in
theorem uwg6 : (u_ws RX6 TX6 12).all goodWord = true := by decide +kernel
theorem uws_in {ws : List Cond} {is : List Nat} (h : ws = is.filterMap (fun i => lw_tbl[i]?)) (hg : ws.all goodWord = true) : ∀ w ∈ ws, w ∈ gTbl := by
  intro w hw
  have h1 := List.all_eq_true.mp hg w hw
  rw [h] at hw
  obtain ⟨i, -, hi⟩ := List.mem_filterMap.mp hw
  exact gT_at hi h1
theorem uwsIn : ∀ ci, ci < 7 → ∀ w ∈ u_ws (RXn ci) (TXn ci) (nXn ci), w ∈ gTbl
  | 0, _ => uws_in uws0 uwg0
  | 1, _ => uws_in uws1 uwg1
  | 2, _ => uws_in uws2 uwg2
  | 3, _ => uws_in uws3 uwg3
  | 4, _ => uws_in uws4 uwg4
  | 5, _ => uws_in uws5 uwg5
  | 6, _ => uws_in uws6 uwg6
  | _ + 7, h => absurd h (by omega)
theorem vwCl_at : ∀ ci, ci < 7 → vwCl[ci]? = some (RXn ci, TXn ci, nXn ci)
  | 0, _ => rfl
  | 1, _ => rfl
  | 2, _ => rfl
  | 3, _ => rfl
  | 4, _ => rfl
  | 5, _ => rfl
  | 6, _ => rfl
  | _ + 7, h => absurd h (by omega)
theorem tyn_ok : ∀ ci, ci < 7 → ∀ k, k < nXn ci → parseFieldDescriptor (TXn ci k).2.2.1 = some (tyn ci k)
  | 0, _ => tyX0_ok
  | 1, _ => tyX1_ok
  | 2, _ => tyX2_ok
  | 3, _ => tyX3_ok
  | 4, _ => tyX4_ok
  | 5, _ => tyX5_ok
  | 6, _ => tyX6_ok
  | _ + 7, h => absurd h (by omega)
theorem nmn : ∀ ci, ci < 7 → ∀ a, a < nXn ci → ∀ b, b < nXn ci → a ≠ b → (TXn ci a).2.1 ≠ (TXn ci b).2.1
  | 0, _ => nmX0
  | 1, _ => nmX1
  | 2, _ => nmX2
  | 3, _ => nmX3
  | 4, _ => nmX4
  | 5, _ => nmX5
  | 6, _ => nmX6
  | _ + 7, h => absurd h (by omega)
/-! ===== the numbers of the world: ints by place and slot, one long a place ===== -/
abbrev Mem : Type := (Nat → Nat → Int32) × (Nat → Int64)
def wr (M : Mem) (p k : Nat) (v : Int32) : Mem := (fun q => if q = p then (fun j => if j = k then v else M.1 p j) else M.1 q, M.2)
def wrL (M : Mem) (p : Nat) (v : Int64) : Mem := (M.1, fun q => if q = p then v else M.2 q)
def fvA (M : Mem) (p k c : Nat) : Value := match c with
  | 0 => .int (M.1 p k)
  | 1 => .long (M.2 p)
  | q + 2 => .ref q
def rl (ad : Nat → Nat) (v : Value) : Value := match v with
  | .ref q => .ref (ad q)
  | v => v
/-- tables, addresses, classes of rows, which cells are the world's -/
abbrev Gx : Type := va_G × (Nat → Nat) × (Nat → ClassId) × (Nat → Prop)
def cellE (G : Gx) (M : Mem) (p : Nat) (e : Nat × Nat × List Nat) : va_E :=
  if e.1 < 7 then .inr (e.1, e.2.2.mapIdx (fun k c => rl G.2.1 (fvA M p k c))) else .inl (G.2.2.1 e.1, e.2.1, .inl (M.1 p))
def wl (G : Gx) (M : Mem) : va_W := (List.range nPl).map (fun p => (G.2.1 p, cellE G M p (layF p)))
theorem wl_at (G : Gx) (M : Mem) {p : Nat} (h : p < nPl) : (wl G M)[p]? = some (G.2.1 p, cellE G M p (layF p)) := by
  simp [wl, List.getElem?_map, List.getElem?_range h]
theorem wl_no (G : Gx) (M : Mem) {p : Nat} (h : ¬ p < nPl) : (wl G M)[p]? = none := by
  simp only [wl, List.getElem?_map]
  rw [List.getElem?_eq_none (by simpa using Nat.not_lt.mp h)]
  rfl
theorem wl_len (G : Gx) (M : Mem) : (wl G M).length = nPl := by simp [wl]
theorem cellE_congr {G : Gx} {M M' : Mem} {p : Nat} (h1 : M.1 p = M'.1 p) (h2 : M.2 p = M'.2 p) (e : Nat × Nat × List Nat) : cellE G M p e = cellE G M' p e := by
  have hf : fvA M p = fvA M' p := by
    funext k c
    match c with
    | 0 => simp [fvA, h1]
    | 1 => simp [fvA, h2]
    | q + 2 => rfl
  unfold cellE
  rw [hf, h1]
theorem wr_ne (M : Mem) {p q k : Nat} {v : Int32} (h : q ≠ p) : (wr M p k v).1 q = M.1 q := by simp [wr, h]
theorem wr_upd (M : Mem) (p k : Nat) (v : Int32) : (wr M p k v).1 p = upd (M.1 p) k v := by
  funext j
  simp [wr, upd]
theorem wl_set {G : Gx} {M M' : Mem} {p : Nat} {e : va_E} (hp : p < nPl) (h1 : ∀ q, q ≠ p → M'.1 q = M.1 q) (h2 : ∀ q, q ≠ p → M'.2 q = M.2 q) (he : cellE G M' p (layF p) = e) : (wl G M).set p (G.2.1 p, e) = wl G M' := by
  apply List.ext_getElem?
  intro i
  by_cases hi : i = p
  · subst hi
    rw [List.getElem?_set_self (by rw [wl_len]; exact hp), wl_at G M' hp, he]
  · rw [List.getElem?_set_ne (Ne.symm hi)]
    by_cases hl : i < nPl
    · rw [wl_at G M hl, wl_at G M' hl, cellE_congr (h1 i hi) (h2 i hi)]
    · rw [wl_no G M hl, wl_no G M' hl]
theorem wl_wr (G : Gx) (M : Mem) {p k ci n : Nat} {cs : List Nat} {v : Int32} (hp : p < nPl) (hl : layF p = (ci, n, cs)) (hc : ci < 7) (hk : cs[k]? = some 0) :
    (wl G M).set p (G.2.1 p, .inr (ci, (cs.mapIdx (fun k c => rl G.2.1 (fvA M p k c))).set k (.int v))) = wl G (wr M p k v) := by
  refine wl_set hp (fun q h => wr_ne M h) (fun q h => rfl) ?_
  rw [hl]
  unfold cellE
  rw [if_pos hc]
  congr 2
  apply List.ext_getElem?
  intro j
  rw [List.getElem?_set, List.getElem?_mapIdx, List.getElem?_mapIdx]
  by_cases hj : k = j
  · subst hj
    have hlt : k < cs.length := (List.getElem?_eq_some_iff.mp hk).1
    have hk0 : cs[k] = 0 := (List.getElem?_eq_some_iff.mp hk).2
    simp [hk0, hlt, fvA, rl, wr]
  · rw [if_neg hj]
    cases hcj : cs[j]? with
    | none => rfl
    | some c =>
      match c with
      | 0 => simp [fvA, rl, wr, Ne.symm hj]
      | 1 => rfl
      | q + 2 => rfl
theorem wl_wra (G : Gx) (M : Mem) {p k kd n : Nat} {cs : List Nat} {v : Int32} (hp : p < nPl) (hl : layF p = (kd, n, cs)) (hc : ¬ kd < 7) :
    (wl G M).set p (G.2.1 p, .inl (G.2.2.1 kd, n, .inl (upd (M.1 p) k v))) = wl G (wr M p k v) := by
  refine wl_set hp (fun q h => wr_ne M h) (fun q h => rfl) ?_
  rw [hl]
  unfold cellE
  rw [if_neg hc, wr_upd]
theorem wl_wrL (G : Gx) (M : Mem) {p k ci n : Nat} {cs : List Nat} {v : Int64} (hp : p < nPl) (hl : layF p = (ci, n, cs)) (hc : ci < 7) (hk : cs[k]? = some 1) (hu : ∀ j, cs[j]? = some 1 → j = k) :
    (wl G M).set p (G.2.1 p, .inr (ci, (cs.mapIdx (fun k c => rl G.2.1 (fvA M p k c))).set k (.long v))) = wl G (wrL M p v) := by
  refine wl_set hp (fun q h => rfl) (fun q h => by simp [wrL, h]) ?_
  rw [hl]
  unfold cellE
  rw [if_pos hc]
  congr 2
  apply List.ext_getElem?
  intro j
  rw [List.getElem?_set, List.getElem?_mapIdx, List.getElem?_mapIdx]
  by_cases hj : k = j
  · subst hj
    have hlt : k < cs.length := (List.getElem?_eq_some_iff.mp hk).1
    have hk0 : cs[k] = 1 := (List.getElem?_eq_some_iff.mp hk).2
    simp [hk0, hlt, fvA, rl, wrL]
  · rw [if_neg hj]
    cases hcj : cs[j]? with
    | none => rfl
    | some c =>
      match c with
      | 0 => rfl
      | 1 => exact absurd (hu j hcj).symm hj
      | q + 2 => rfl
/-! ===== the locals ===== -/
def gl (L : List (Option Value)) (i : Nat) : Option Value := L.getD i none
def al (ad : Nat → Nat) (L : List (Option Value)) : List (Nat × Value) := (List.range L.length).filterMap (fun i => (gl L i).map (fun v => (i, rl ad v)))
theorem al_mem {ad : Nat → Nat} {L : List (Option Value)} {q : Nat × Value} : q ∈ al ad L ↔ ∃ v, gl L q.1 = some v ∧ q.2 = rl ad v := by
  unfold al
  rw [List.mem_filterMap]
  constructor
  · rintro ⟨i, -, hi⟩
    cases hg : gl L i with
    | none => rw [hg] at hi; cases hi
    | some v => rw [hg] at hi; cases hi; exact ⟨v, hg, rfl⟩
  · rintro ⟨v, hv, hq⟩
    refine ⟨q.1, ?_, ?_⟩
    · rw [List.mem_range]
      apply Nat.not_le.mp
      intro hle
      unfold gl at hv
      rw [List.getD_eq_getElem?_getD, List.getElem?_eq_none hle] at hv
      cases hv
    · rw [hv]
      show some (q.1, rl ad v) = some q
      rw [← hq]
theorem rl_cat (ad : Nat → Nat) (v : Value) : (rl ad v).category = v.category := by cases v <;> rfl
def LR (ad : Nat → Nat) (nL : Nat) (L : List (Option Value)) (ls : Array Slot) : Prop := L.length = nL ∧ lv_has ls nL (al ad L) ∧ ∀ i v, gl L i = some v → v.category = 1
theorem LR.at {ad : Nat → Nat} {nL : Nat} {L : List (Option Value)} {ls : Array Slot} (h : LR ad nL L ls) {i : Nat} {v : Value} (hv : gl L i = some v) : ls[i]? = some (.val (rl ad v)) := h.2.1.2.2 (i, rl ad v) (al_mem.mpr ⟨v, hv, rfl⟩)
theorem LR.lt {ad : Nat → Nat} {nL : Nat} {L : List (Option Value)} {ls : Array Slot} (h : LR ad nL L ls) {i : Nat} {v : Value} (hv : gl L i = some v) : i < nL := by
  have := (Array.getElem?_eq_some_iff.mp (h.at hv)).1
  rw [h.2.1.1] at this
  exact this
theorem gl_set (L : List (Option Value)) {i : Nat} (hi : i < L.length) (x : Option Value) (j : Nat) : gl (L.set i x) j = if j = i then x else gl L j := by
  unfold gl
  rw [List.getD_eq_getElem?_getD, List.getD_eq_getElem?_getD, List.getElem?_set]
  by_cases h : j = i
  · subst h
    simp [hi]
  · simp [h, Ne.symm h]
theorem LR.store {ad : Nat → Nat} {nL : Nat} {L : List (Option Value)} {ls ls' : Array Slot} {i : Nat} {v : Value} (h : LR ad nL L ls) (hi : i < L.length) (hc : v.category = 1)
    (hs : lv_has ls' nL ((i, rl ad v) :: (al ad L).filter (fun q => !(q.1 == i) && !(q.1 + 1 == i && q.2.category == 2)))) : LR ad nL (L.set i (some v)) ls' := by
  refine ⟨by rw [List.length_set]; exact h.1, ⟨hs.1, hs.2.1, fun q hq => ?_⟩, fun j w hw => ?_⟩
  · obtain ⟨w, hw, he⟩ := al_mem.mp hq
    rw [gl_set L hi] at hw
    by_cases hj : q.1 = i
    · rw [if_pos hj] at hw
      cases hw
      have := hs.2.2 (i, rl ad v) List.mem_cons_self
      rw [he, hj]
      exact this
    · rw [if_neg hj] at hw
      refine hs.2.2 q (List.mem_cons_of_mem _ (List.mem_filter.mpr ⟨al_mem.mpr ⟨w, hw, he⟩, ?_⟩))
      have h1 : q.2.category = 1 := by rw [he, rl_cat]; exact h.2.2 _ _ hw
      simp [hj, h1]
  · rw [gl_set L hi] at hw
    by_cases hj : j = i
    · rw [if_pos hj] at hw
      cases hw
      exact hc
    · rw [if_neg hj] at hw
      exact h.2.2 _ _ hw
/-! ===== the abstract machine: straight instructions; what must hold on the way is gathered in the last part ===== -/
abbrev St : Type := Nat × List (Option Value) × List Value × Mem × Prop
def rdA (M : Mem) (p : Nat) : Option (Nat × Nat × (Nat → Int32)) :=
  bif Nat.blt p nPl then (bif Nat.blt (layF p).1 7 then none else some ((layF p).1, (layF p).2.1, M.1 p))
  else bif Nat.blt p 100 then none else bif Nat.blt p 104 then some (20, 4, stV (p - 100)) else bif Nat.beq p 104 then some (20, (M.1 105 0).toNatClampNeg, M.1 104) else none
def ky (o idx : Nat) : Nat := bif Nat.blt idx 1000 then o * 1000 + idx else 1000000
def psh (n : Nat) (v : Value) (S : St) : Option St := match S with
  | (pc, L, st, M, P) => some (pc + n, L, v :: st, M, P)
def ldi (n i : Nat) (S : St) : Option St := match S with
  | (pc, L, st, M, P) => match gl L i with
    | some (.int v) => some (pc + n, L, .int v :: st, M, P)
    | _ => none
def lda (n i : Nat) (S : St) : Option St := match S with
  | (pc, L, st, M, P) => match gl L i with
    | some (.ref v) => some (pc + n, L, .ref v :: st, M, P)
    | _ => none
def sti (n i : Nat) (S : St) : Option St := match S with
  | (pc, L, .int v :: st, M, P) => bif Nat.blt i L.length then some (pc + n, L.set i (some (.int v)), st, M, P) else none
  | _ => none
def sta (n i : Nat) (S : St) : Option St := match S with
  | (pc, L, .ref v :: st, M, P) => bif Nat.blt i L.length then some (pc + n, L.set i (some (.ref v)), st, M, P) else none
  | _ => none
def inc (i : Nat) (k : Int) (S : St) : Option St := match S with
  | (pc, L, st, M, P) => match gl L i with
    | some (.int v) => some (pc + 3, L.set i (some (.int (v + Int32.ofInt k))), st, M, P)
    | _ => none
def ar2 (g : Int32 → Int32 → Int32) (S : St) : Option St := match S with
  | (pc, L, .int y :: .int x :: st, M, P) => some (pc + 1, L, .int (g x y) :: st, M, P)
  | _ => none
def ar2d (g : Int32 → Int32 → Int32) (S : St) : Option St := match S with
  | (pc, L, .int y :: .int x :: st, M, P) => some (pc + 1, L, .int (g x y) :: st, M, P ∧ ¬ y = 0)
  | _ => none
def ar1 (g : Int32 → Int32) (S : St) : Option St := match S with
  | (pc, L, .int x :: st, M, P) => some (pc + 1, L, .int (g x) :: st, M, P)
  | _ => none
def xlad (S : St) : Option St := match S with
  | (pc, L, .long y :: .long x :: st, M, P) => some (pc + 1, L, .long (x + y) :: st, M, P)
  | _ => none
def xlcm (S : St) : Option St := match S with
  | (pc, L, .long y :: .long x :: st, M, P) => some (pc + 1, L, .int (lg_cmp x y) :: st, M, P)
  | _ => none
def xdup (S : St) : Option St := match S with
  | (pc, L, .int x :: st, M, P) => some (pc + 1, L, .int x :: .int x :: st, M, P)
  | (pc, L, .ref x :: st, M, P) => some (pc + 1, L, .ref x :: .ref x :: st, M, P)
  | _ => none
def xdup2 (S : St) : Option St := match S with
  | (pc, L, .int x :: .ref y :: st, M, P) => some (pc + 1, L, .int x :: .ref y :: .int x :: .ref y :: st, M, P)
  | _ => none
def xpop (S : St) : Option St := match S with
  | (pc, L, .int x :: st, M, P) => some (pc + 1, L, st, M, P)
  | _ => none
def xgoto (off : Int) (S : St) : Option St := match S with
  | (pc, L, st, M, P) => match (pc : Int) + off with
    | .ofNat t => some (t, L, st, M, P)
    | _ => none
def xget (o idx : Nat) (S : St) : Option St := match S with
  | (pc, L, .ref p :: st, M, P) => match fldR (ky o idx) with
    | some (ci, k) => bif Nat.blt p nPl && Nat.beq (layF p).1 ci then (match (layF p).2.2[k]? with
        | some c => some (pc + 3, L, fvA M p k c :: st, M, P)
        | none => none) else none
    | none => none
  | _ => none
def lgOK (p k : Nat) : Bool := (Nat.beq p 0 && Nat.beq k 11) || (Nat.beq p 37 && Nat.beq k 11)
def xput (o idx : Nat) (S : St) : Option St := match S with
  | (pc, L, .int v :: .ref p :: st, M, P) => match fldR (ky o idx) with
    | some (ci, k) => bif Nat.blt p nPl && Nat.beq (layF p).1 ci && !(TXn ci k).2.2.2 then (match (layF p).2.2[k]?, tyn ci k with
        | some 0, .int => some (pc + 3, L, st, wr M p k v, P)
        | some 0, .boolean => some (pc + 3, L, st, wr M p k v, P ∧ (v = 0 ∨ v = 1))
        | _, _ => none) else none
    | none => none
  | (pc, L, .long v :: .ref p :: st, M, P) => match fldR (ky o idx) with
    | some (ci, k) => bif Nat.blt p nPl && Nat.beq (layF p).1 ci && !(TXn ci k).2.2.2 && lgOK p k then some (pc + 3, L, st, wrL M p v, P) else none
    | none => none
  | _ => none
def xsta (o idx : Nat) (S : St) : Option St := match S with
  | (pc, L, st, M, P) => match sttR (ky o idx) with
    | some (j, _) => some (pc + 3, L, .ref (100 + j) :: st, M, P)
    | none => none
def xald (kd : Nat) (S : St) : Option St := match S with
  | (pc, L, .int i :: .ref p :: st, M, P) => match rdA M p with
    | some (kd', n, g) => bif Nat.beq kd' kd then some (pc + 1, L, .int (g i.toNatClampNeg) :: st, M, P ∧ vp_in i n) else none
    | none => none
  | _ => none
def xbld (_ : St) : Option St := none
def xast (kd : Nat) (nar : Int32 → Int32) (S : St) : Option St := match S with
  | (pc, L, .int v :: .int i :: .ref p :: st, M, P) => bif Nat.blt p nPl && Nat.beq (layF p).1 kd then some (pc + 1, L, st, wr M p i.toNatClampNeg (nar v), P ∧ vp_in i (layF p).2.1) else none
  | _ => none
def xbst (_ : St) : Option St := none
def xlen (S : St) : Option St := match S with
  | (pc, L, .ref p :: st, M, P) => bif Nat.beq p 104 then some (pc + 1, L, .int (M.1 105 0) :: st, M, P) else bif Nat.ble 100 p && Nat.blt p 104 then some (pc + 1, L, .int 4 :: st, M, P) else none
  | _ => none
def shl (x y : Int32) : Int32 := x <<< (y &&& 31)
def shr (x y : Int32) : Int32 := x >>> (y &&& 31)
def usr (x y : Int32) : Int32 := (x.toUInt32 >>> (y.toUInt32 &&& Int32.toUInt32 31)).toInt32
def rem (x y : Int32) : Int32 := x - x / y * y
def cic (o : Nat) (n : Nat) (k : Nat) (S : St) : Option St := match cstR (ky o k) with
  | some v => psh n (.int v) S
  | none => none
def cil (o : Nat) (k : Nat) (S : St) : Option St := match cslR (ky o k) with
  | some v => psh 3 (.long v) S
  | none => none
def stp (o : Nat) (x : Instr × Nat) (S : St) : Option St := match x with
  | (.iconst i, 1) => psh 1 (.int (Int32.ofInt i)) S
  | (.bipush i, 2) => psh 2 (.int (Int8.ofInt i).toInt32) S
  | (.sipush i, 3) => psh 3 (.int (Int16.ofInt i).toInt32) S
  | (.lconst i, 1) => psh 1 (.long (Int64.ofNat i)) S
  | (.ldc k, 2) => cic o 2 k S
  | (.ldc_w k, 3) => cic o 3 k S
  | (.ldc2_w k, 3) => cil o k S
  | (.iload_n i, 1) => ldi 1 i S
  | (.iload i, 2) => ldi 2 i S
  | (.aload_n i, 1) => lda 1 i S
  | (.aload i, 2) => lda 2 i S
  | (.istore_n i, 1) => sti 1 i S
  | (.istore i, 2) => sti 2 i S
  | (.astore_n i, 1) => sta 1 i S
  | (.astore i, 2) => sta 2 i S
  | (.iinc i k, 3) => inc i k S
  | (.iadd, 1) => ar2 (fun x y => x + y) S
  | (.isub, 1) => ar2 (fun x y => x - y) S
  | (.imul, 1) => ar2 (fun x y => x * y) S
  | (.iand, 1) => ar2 (fun x y => x &&& y) S
  | (.ior, 1) => ar2 (fun x y => x ||| y) S
  | (.ixor, 1) => ar2 (fun x y => x ^^^ y) S
  | (.ishl, 1) => ar2 shl S
  | (.ishr, 1) => ar2 shr S
  | (.iushr, 1) => ar2 usr S
  | (.idiv, 1) => ar2d (fun x y => x / y) S
  | (.irem, 1) => ar2d rem S
  | (.ineg, 1) => ar1 (fun x => -x) S
  | (.i2b, 1) => ar1 (fun x => x.toInt8.toInt32) S
  | (.ladd, 1) => xlad S
  | (.lcmp, 1) => xlcm S
  | (.dup, 1) => xdup S
  | (.dup2, 1) => xdup2 S
  | (.pop, 1) => xpop S
  | (.goto off, 3) => xgoto off S
  | (.getfield k, 3) => xget o k S
  | (.putfield k, 3) => xput o k S
  | (.getstatic k, 3) => xsta o k S
  | (.iaload, 1) => xald 20 S
  | (.baload, 1) => xbld S
  | (.iastore, 1) => xast 20 (fun v => v) S
  | (.bastore, 1) => xbst S
  | (.arraylength, 1) => xlen S
  | _ => none
/-- so many instructions -/
def run (o : Nat) (f : Nat → Option (Instr × Nat)) : Nat → St → Option St
  | 0, S => some S
  | n + 1, S => match f S.1 with
    | some x => match stp o x S with
      | some S' => run o f n S'
      | none => none
    | none => none
