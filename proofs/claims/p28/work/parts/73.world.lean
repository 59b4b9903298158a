/-! ===== the world behind the making, as places; printed by wip/gen/p73.py ===== -/
theorem mi_1 {α β : Type} (g : Nat → α → β) (x0 : α) : [x0].mapIdx g = [g 0 x0] := by
  simp only [List.mapIdx_cons, List.mapIdx_nil]
  try rfl
theorem mi_4 {α β : Type} (g : Nat → α → β) (x0 x1 x2 x3 : α) : [x0, x1, x2, x3].mapIdx g = [g 0 x0, g 1 x1, g 2 x2, g 3 x3] := by
  simp only [List.mapIdx_cons, List.mapIdx_nil]
  try rfl
theorem mi_6 {α β : Type} (g : Nat → α → β) (x0 x1 x2 x3 x4 x5 : α) : [x0, x1, x2, x3, x4, x5].mapIdx g = [g 0 x0, g 1 x1, g 2 x2, g 3 x3, g 4 x4, g 5 x5] := by
  simp only [List.mapIdx_cons, List.mapIdx_nil]
  try rfl
theorem mi_7 {α β : Type} (g : Nat → α → β) (x0 x1 x2 x3 x4 x5 x6 : α) : [x0, x1, x2, x3, x4, x5, x6].mapIdx g = [g 0 x0, g 1 x1, g 2 x2, g 3 x3, g 4 x4, g 5 x5, g 6 x6] := by
  simp only [List.mapIdx_cons, List.mapIdx_nil]
  try rfl
theorem mi_9 {α β : Type} (g : Nat → α → β) (x0 x1 x2 x3 x4 x5 x6 x7 x8 : α) : [x0, x1, x2, x3, x4, x5, x6, x7, x8].mapIdx g = [g 0 x0, g 1 x1, g 2 x2, g 3 x3, g 4 x4, g 5 x5, g 6 x6, g 7 x7, g 8 x8] := by
  simp only [List.mapIdx_cons, List.mapIdx_nil]
  try rfl
theorem mi_10 {α β : Type} (g : Nat → α → β) (x0 x1 x2 x3 x4 x5 x6 x7 x8 x9 : α) : [x0, x1, x2, x3, x4, x5, x6, x7, x8, x9].mapIdx g = [g 0 x0, g 1 x1, g 2 x2, g 3 x3, g 4 x4, g 5 x5, g 6 x6, g 7 x7, g 8 x8, g 9 x9] := by
  simp only [List.mapIdx_cons, List.mapIdx_nil]
  try rfl
theorem mi_12 {α β : Type} (g : Nat → α → β) (x0 x1 x2 x3 x4 x5 x6 x7 x8 x9 x10 x11 : α) : [x0, x1, x2, x3, x4, x5, x6, x7, x8, x9, x10, x11].mapIdx g = [g 0 x0, g 1 x1, g 2 x2, g 3 x3, g 4 x4, g 5 x5, g 6 x6, g 7 x7, g 8 x8, g 9 x9, g 10 x10, g 11 x11] := by
  simp only [List.mapIdx_cons, List.mapIdx_nil]
  try rfl
theorem at_0 (G : Gx) (M : Mem) : cellE G M 0 (layF 0) = .inr (6, [.ref (G.2.1 1), .ref (G.2.1 6), .ref (G.2.1 9), .ref (G.2.1 16), .ref (G.2.1 23), .ref (G.2.1 30), .ref (G.2.1 32), .ref (G.2.1 33), .int (M.1 0 8), .int (M.1 0 9), .int (M.1 0 10), .long (M.2 0)]) := by
  have h : layF 0 = (6, 0, [3, 8, 11, 18, 25, 32, 34, 35, 0, 0, 0, 1]) := rfl
  rw [h]
  unfold cellE
  rw [if_pos (by decide)]
  dsimp only
  rw [mi_12]
  rfl
theorem at_1 (G : Gx) (M : Mem) : cellE G M 1 (layF 1) = .inr (4, [.ref (G.2.1 2), .int (M.1 1 1), .ref (G.2.1 3), .int (M.1 1 3), .int (M.1 1 4), .int (M.1 1 5), .int (M.1 1 6), .int (M.1 1 7), .int (M.1 1 8), .int (M.1 1 9)]) := by
  have h : layF 1 = (4, 0, [4, 0, 5, 0, 0, 0, 0, 0, 0, 0]) := rfl
  rw [h]
  unfold cellE
  rw [if_pos (by decide)]
  dsimp only
  rw [mi_10]
  rfl
theorem at_2 (G : Gx) (M : Mem) : cellE G M 2 (layF 2) = .inl (G.2.2.1 20, 150, .inl (M.1 2)) := by
  have h : layF 2 = (20, 150, []) := rfl
  rw [h]
  exact if_neg (by decide)
theorem at_3 (G : Gx) (M : Mem) : cellE G M 3 (layF 3) = .inr (3, [.int (M.1 3 0), .int (M.1 3 1), .int (M.1 3 2), .int (M.1 3 3), .int (M.1 3 4), .ref (G.2.1 4), .ref (G.2.1 5)]) := by
  have h : layF 3 = (3, 0, [0, 0, 0, 0, 0, 6, 7]) := rfl
  rw [h]
  unfold cellE
  rw [if_pos (by decide)]
  dsimp only
  rw [mi_7]
  rfl
theorem at_4 (G : Gx) (M : Mem) : cellE G M 4 (layF 4) = .inl (G.2.2.1 20, 16, .inl (M.1 4)) := by
  have h : layF 4 = (20, 16, []) := rfl
  rw [h]
  exact if_neg (by decide)
theorem at_5 (G : Gx) (M : Mem) : cellE G M 5 (layF 5) = .inl (G.2.2.1 20, 4, .inl (M.1 5)) := by
  have h : layF 5 = (20, 4, []) := rfl
  rw [h]
  exact if_neg (by decide)
theorem at_6 (G : Gx) (M : Mem) : cellE G M 6 (layF 6) = .inr (3, [.int (M.1 6 0), .int (M.1 6 1), .int (M.1 6 2), .int (M.1 6 3), .int (M.1 6 4), .ref (G.2.1 7), .ref (G.2.1 8)]) := by
  have h : layF 6 = (3, 0, [0, 0, 0, 0, 0, 9, 10]) := rfl
  rw [h]
  unfold cellE
  rw [if_pos (by decide)]
  dsimp only
  rw [mi_7]
  rfl
theorem at_7 (G : Gx) (M : Mem) : cellE G M 7 (layF 7) = .inl (G.2.2.1 20, 16, .inl (M.1 7)) := by
  have h : layF 7 = (20, 16, []) := rfl
  rw [h]
  exact if_neg (by decide)
theorem at_8 (G : Gx) (M : Mem) : cellE G M 8 (layF 8) = .inl (G.2.2.1 20, 4, .inl (M.1 8)) := by
  have h : layF 8 = (20, 4, []) := rfl
  rw [h]
  exact if_neg (by decide)
theorem at_9 (G : Gx) (M : Mem) : cellE G M 9 (layF 9) = .inr (0, [.ref (G.2.1 10), .ref (G.2.1 11), .ref (G.2.1 12), .int (M.1 9 3), .int (M.1 9 4), .ref (G.2.1 13), .ref (G.2.1 14), .ref (G.2.1 15), .int (M.1 9 8)]) := by
  have h : layF 9 = (0, 0, [12, 13, 14, 0, 0, 15, 16, 17, 0]) := rfl
  rw [h]
  unfold cellE
  rw [if_pos (by decide)]
  dsimp only
  rw [mi_9]
  rfl
theorem at_10 (G : Gx) (M : Mem) : cellE G M 10 (layF 10) = .inl (G.2.2.1 20, 16, .inl (M.1 10)) := by
  have h : layF 10 = (20, 16, []) := rfl
  rw [h]
  exact if_neg (by decide)
theorem at_11 (G : Gx) (M : Mem) : cellE G M 11 (layF 11) = .inl (G.2.2.1 20, 16, .inl (M.1 11)) := by
  have h : layF 11 = (20, 16, []) := rfl
  rw [h]
  exact if_neg (by decide)
theorem at_12 (G : Gx) (M : Mem) : cellE G M 12 (layF 12) = .inl (G.2.2.1 20, 4, .inl (M.1 12)) := by
  have h : layF 12 = (20, 4, []) := rfl
  rw [h]
  exact if_neg (by decide)
theorem at_13 (G : Gx) (M : Mem) : cellE G M 13 (layF 13) = .inl (G.2.2.1 20, 10, .inl (M.1 13)) := by
  have h : layF 13 = (20, 10, []) := rfl
  rw [h]
  exact if_neg (by decide)
theorem at_14 (G : Gx) (M : Mem) : cellE G M 14 (layF 14) = .inl (G.2.2.1 20, 10, .inl (M.1 14)) := by
  have h : layF 14 = (20, 10, []) := rfl
  rw [h]
  exact if_neg (by decide)
theorem at_15 (G : Gx) (M : Mem) : cellE G M 15 (layF 15) = .inl (G.2.2.1 20, 10, .inl (M.1 15)) := by
  have h : layF 15 = (20, 10, []) := rfl
  rw [h]
  exact if_neg (by decide)
theorem at_16 (G : Gx) (M : Mem) : cellE G M 16 (layF 16) = .inr (0, [.ref (G.2.1 17), .ref (G.2.1 18), .ref (G.2.1 19), .int (M.1 16 3), .int (M.1 16 4), .ref (G.2.1 20), .ref (G.2.1 21), .ref (G.2.1 22), .int (M.1 16 8)]) := by
  have h : layF 16 = (0, 0, [19, 20, 21, 0, 0, 22, 23, 24, 0]) := rfl
  rw [h]
  unfold cellE
  rw [if_pos (by decide)]
  dsimp only
  rw [mi_9]
  rfl
theorem at_17 (G : Gx) (M : Mem) : cellE G M 17 (layF 17) = .inl (G.2.2.1 20, 16, .inl (M.1 17)) := by
  have h : layF 17 = (20, 16, []) := rfl
  rw [h]
  exact if_neg (by decide)
theorem at_18 (G : Gx) (M : Mem) : cellE G M 18 (layF 18) = .inl (G.2.2.1 20, 16, .inl (M.1 18)) := by
  have h : layF 18 = (20, 16, []) := rfl
  rw [h]
  exact if_neg (by decide)
theorem at_19 (G : Gx) (M : Mem) : cellE G M 19 (layF 19) = .inl (G.2.2.1 20, 4, .inl (M.1 19)) := by
  have h : layF 19 = (20, 4, []) := rfl
  rw [h]
  exact if_neg (by decide)
theorem at_20 (G : Gx) (M : Mem) : cellE G M 20 (layF 20) = .inl (G.2.2.1 20, 10, .inl (M.1 20)) := by
  have h : layF 20 = (20, 10, []) := rfl
  rw [h]
  exact if_neg (by decide)
theorem at_21 (G : Gx) (M : Mem) : cellE G M 21 (layF 21) = .inl (G.2.2.1 20, 10, .inl (M.1 21)) := by
  have h : layF 21 = (20, 10, []) := rfl
  rw [h]
  exact if_neg (by decide)
theorem at_22 (G : Gx) (M : Mem) : cellE G M 22 (layF 22) = .inl (G.2.2.1 20, 10, .inl (M.1 22)) := by
  have h : layF 22 = (20, 10, []) := rfl
  rw [h]
  exact if_neg (by decide)
theorem at_23 (G : Gx) (M : Mem) : cellE G M 23 (layF 23) = .inr (0, [.ref (G.2.1 24), .ref (G.2.1 25), .ref (G.2.1 26), .int (M.1 23 3), .int (M.1 23 4), .ref (G.2.1 27), .ref (G.2.1 28), .ref (G.2.1 29), .int (M.1 23 8)]) := by
  have h : layF 23 = (0, 0, [26, 27, 28, 0, 0, 29, 30, 31, 0]) := rfl
  rw [h]
  unfold cellE
  rw [if_pos (by decide)]
  dsimp only
  rw [mi_9]
  rfl
theorem at_24 (G : Gx) (M : Mem) : cellE G M 24 (layF 24) = .inl (G.2.2.1 20, 16, .inl (M.1 24)) := by
  have h : layF 24 = (20, 16, []) := rfl
  rw [h]
  exact if_neg (by decide)
theorem at_25 (G : Gx) (M : Mem) : cellE G M 25 (layF 25) = .inl (G.2.2.1 20, 16, .inl (M.1 25)) := by
  have h : layF 25 = (20, 16, []) := rfl
  rw [h]
  exact if_neg (by decide)
theorem at_26 (G : Gx) (M : Mem) : cellE G M 26 (layF 26) = .inl (G.2.2.1 20, 4, .inl (M.1 26)) := by
  have h : layF 26 = (20, 4, []) := rfl
  rw [h]
  exact if_neg (by decide)
theorem at_27 (G : Gx) (M : Mem) : cellE G M 27 (layF 27) = .inl (G.2.2.1 20, 10, .inl (M.1 27)) := by
  have h : layF 27 = (20, 10, []) := rfl
  rw [h]
  exact if_neg (by decide)
theorem at_28 (G : Gx) (M : Mem) : cellE G M 28 (layF 28) = .inl (G.2.2.1 20, 10, .inl (M.1 28)) := by
  have h : layF 28 = (20, 10, []) := rfl
  rw [h]
  exact if_neg (by decide)
theorem at_29 (G : Gx) (M : Mem) : cellE G M 29 (layF 29) = .inl (G.2.2.1 20, 10, .inl (M.1 29)) := by
  have h : layF 29 = (20, 10, []) := rfl
  rw [h]
  exact if_neg (by decide)
theorem at_30 (G : Gx) (M : Mem) : cellE G M 30 (layF 30) = .inr (5, [.ref (G.2.1 31)]) := by
  have h : layF 30 = (5, 0, [33]) := rfl
  rw [h]
  unfold cellE
  rw [if_pos (by decide)]
  dsimp only
  rw [mi_1]
  rfl
theorem at_31 (G : Gx) (M : Mem) : cellE G M 31 (layF 31) = .inl (G.2.2.1 20, 11, .inl (M.1 31)) := by
  have h : layF 31 = (20, 11, []) := rfl
  rw [h]
  exact if_neg (by decide)
theorem at_32 (G : Gx) (M : Mem) : cellE G M 32 (layF 32) = .inr (1, [.int (M.1 32 0), .int (M.1 32 1), .int (M.1 32 2), .int (M.1 32 3)]) := by
  have h : layF 32 = (1, 0, [0, 0, 0, 0]) := rfl
  rw [h]
  unfold cellE
  rw [if_pos (by decide)]
  dsimp only
  rw [mi_4]
  rfl
theorem at_33 (G : Gx) (M : Mem) : cellE G M 33 (layF 33) = .inr (2, [.int (M.1 33 0), .ref (G.2.1 34), .ref (G.2.1 35), .ref (G.2.1 36), .int (M.1 33 4), .int (M.1 33 5)]) := by
  have h : layF 33 = (2, 0, [0, 36, 37, 38, 0, 0]) := rfl
  rw [h]
  unfold cellE
  rw [if_pos (by decide)]
  dsimp only
  rw [mi_6]
  rfl
theorem at_34 (G : Gx) (M : Mem) : cellE G M 34 (layF 34) = .inl (G.2.2.1 20, 16, .inl (M.1 34)) := by
  have h : layF 34 = (20, 16, []) := rfl
  rw [h]
  exact if_neg (by decide)
theorem at_35 (G : Gx) (M : Mem) : cellE G M 35 (layF 35) = .inl (G.2.2.1 20, 16, .inl (M.1 35)) := by
  have h : layF 35 = (20, 16, []) := rfl
  rw [h]
  exact if_neg (by decide)
theorem at_36 (G : Gx) (M : Mem) : cellE G M 36 (layF 36) = .inl (G.2.2.1 20, 4, .inl (M.1 36)) := by
  have h : layF 36 = (20, 4, []) := rfl
  rw [h]
  exact if_neg (by decide)
theorem at_37 (G : Gx) (M : Mem) : cellE G M 37 (layF 37) = .inr (6, [.ref (G.2.1 38), .ref (G.2.1 43), .ref (G.2.1 46), .ref (G.2.1 53), .ref (G.2.1 60), .ref (G.2.1 67), .ref (G.2.1 69), .ref (G.2.1 70), .int (M.1 37 8), .int (M.1 37 9), .int (M.1 37 10), .long (M.2 37)]) := by
  have h : layF 37 = (6, 0, [40, 45, 48, 55, 62, 69, 71, 72, 0, 0, 0, 1]) := rfl
  rw [h]
  unfold cellE
  rw [if_pos (by decide)]
  dsimp only
  rw [mi_12]
  rfl
theorem at_38 (G : Gx) (M : Mem) : cellE G M 38 (layF 38) = .inr (4, [.ref (G.2.1 39), .int (M.1 38 1), .ref (G.2.1 40), .int (M.1 38 3), .int (M.1 38 4), .int (M.1 38 5), .int (M.1 38 6), .int (M.1 38 7), .int (M.1 38 8), .int (M.1 38 9)]) := by
  have h : layF 38 = (4, 0, [41, 0, 42, 0, 0, 0, 0, 0, 0, 0]) := rfl
  rw [h]
  unfold cellE
  rw [if_pos (by decide)]
  dsimp only
  rw [mi_10]
  rfl
theorem at_39 (G : Gx) (M : Mem) : cellE G M 39 (layF 39) = .inl (G.2.2.1 20, 150, .inl (M.1 39)) := by
  have h : layF 39 = (20, 150, []) := rfl
  rw [h]
  exact if_neg (by decide)
theorem at_40 (G : Gx) (M : Mem) : cellE G M 40 (layF 40) = .inr (3, [.int (M.1 40 0), .int (M.1 40 1), .int (M.1 40 2), .int (M.1 40 3), .int (M.1 40 4), .ref (G.2.1 41), .ref (G.2.1 42)]) := by
  have h : layF 40 = (3, 0, [0, 0, 0, 0, 0, 43, 44]) := rfl
  rw [h]
  unfold cellE
  rw [if_pos (by decide)]
  dsimp only
  rw [mi_7]
  rfl
theorem at_41 (G : Gx) (M : Mem) : cellE G M 41 (layF 41) = .inl (G.2.2.1 20, 16, .inl (M.1 41)) := by
  have h : layF 41 = (20, 16, []) := rfl
  rw [h]
  exact if_neg (by decide)
theorem at_42 (G : Gx) (M : Mem) : cellE G M 42 (layF 42) = .inl (G.2.2.1 20, 4, .inl (M.1 42)) := by
  have h : layF 42 = (20, 4, []) := rfl
  rw [h]
  exact if_neg (by decide)
theorem at_43 (G : Gx) (M : Mem) : cellE G M 43 (layF 43) = .inr (3, [.int (M.1 43 0), .int (M.1 43 1), .int (M.1 43 2), .int (M.1 43 3), .int (M.1 43 4), .ref (G.2.1 44), .ref (G.2.1 45)]) := by
  have h : layF 43 = (3, 0, [0, 0, 0, 0, 0, 46, 47]) := rfl
  rw [h]
  unfold cellE
  rw [if_pos (by decide)]
  dsimp only
  rw [mi_7]
  rfl
theorem at_44 (G : Gx) (M : Mem) : cellE G M 44 (layF 44) = .inl (G.2.2.1 20, 16, .inl (M.1 44)) := by
  have h : layF 44 = (20, 16, []) := rfl
  rw [h]
  exact if_neg (by decide)
theorem at_45 (G : Gx) (M : Mem) : cellE G M 45 (layF 45) = .inl (G.2.2.1 20, 4, .inl (M.1 45)) := by
  have h : layF 45 = (20, 4, []) := rfl
  rw [h]
  exact if_neg (by decide)
theorem at_46 (G : Gx) (M : Mem) : cellE G M 46 (layF 46) = .inr (0, [.ref (G.2.1 47), .ref (G.2.1 48), .ref (G.2.1 49), .int (M.1 46 3), .int (M.1 46 4), .ref (G.2.1 50), .ref (G.2.1 51), .ref (G.2.1 52), .int (M.1 46 8)]) := by
  have h : layF 46 = (0, 0, [49, 50, 51, 0, 0, 52, 53, 54, 0]) := rfl
  rw [h]
  unfold cellE
  rw [if_pos (by decide)]
  dsimp only
  rw [mi_9]
  rfl
theorem at_47 (G : Gx) (M : Mem) : cellE G M 47 (layF 47) = .inl (G.2.2.1 20, 16, .inl (M.1 47)) := by
  have h : layF 47 = (20, 16, []) := rfl
  rw [h]
  exact if_neg (by decide)
theorem at_48 (G : Gx) (M : Mem) : cellE G M 48 (layF 48) = .inl (G.2.2.1 20, 16, .inl (M.1 48)) := by
  have h : layF 48 = (20, 16, []) := rfl
  rw [h]
  exact if_neg (by decide)
theorem at_49 (G : Gx) (M : Mem) : cellE G M 49 (layF 49) = .inl (G.2.2.1 20, 4, .inl (M.1 49)) := by
  have h : layF 49 = (20, 4, []) := rfl
  rw [h]
  exact if_neg (by decide)
theorem at_50 (G : Gx) (M : Mem) : cellE G M 50 (layF 50) = .inl (G.2.2.1 20, 10, .inl (M.1 50)) := by
  have h : layF 50 = (20, 10, []) := rfl
  rw [h]
  exact if_neg (by decide)
theorem at_51 (G : Gx) (M : Mem) : cellE G M 51 (layF 51) = .inl (G.2.2.1 20, 10, .inl (M.1 51)) := by
  have h : layF 51 = (20, 10, []) := rfl
  rw [h]
  exact if_neg (by decide)
theorem at_52 (G : Gx) (M : Mem) : cellE G M 52 (layF 52) = .inl (G.2.2.1 20, 10, .inl (M.1 52)) := by
  have h : layF 52 = (20, 10, []) := rfl
  rw [h]
  exact if_neg (by decide)
theorem at_53 (G : Gx) (M : Mem) : cellE G M 53 (layF 53) = .inr (0, [.ref (G.2.1 54), .ref (G.2.1 55), .ref (G.2.1 56), .int (M.1 53 3), .int (M.1 53 4), .ref (G.2.1 57), .ref (G.2.1 58), .ref (G.2.1 59), .int (M.1 53 8)]) := by
  have h : layF 53 = (0, 0, [56, 57, 58, 0, 0, 59, 60, 61, 0]) := rfl
  rw [h]
  unfold cellE
  rw [if_pos (by decide)]
  dsimp only
  rw [mi_9]
  rfl
theorem at_54 (G : Gx) (M : Mem) : cellE G M 54 (layF 54) = .inl (G.2.2.1 20, 16, .inl (M.1 54)) := by
  have h : layF 54 = (20, 16, []) := rfl
  rw [h]
  exact if_neg (by decide)
theorem at_55 (G : Gx) (M : Mem) : cellE G M 55 (layF 55) = .inl (G.2.2.1 20, 16, .inl (M.1 55)) := by
  have h : layF 55 = (20, 16, []) := rfl
  rw [h]
  exact if_neg (by decide)
theorem at_56 (G : Gx) (M : Mem) : cellE G M 56 (layF 56) = .inl (G.2.2.1 20, 4, .inl (M.1 56)) := by
  have h : layF 56 = (20, 4, []) := rfl
  rw [h]
  exact if_neg (by decide)
theorem at_57 (G : Gx) (M : Mem) : cellE G M 57 (layF 57) = .inl (G.2.2.1 20, 10, .inl (M.1 57)) := by
  have h : layF 57 = (20, 10, []) := rfl
  rw [h]
  exact if_neg (by decide)
theorem at_58 (G : Gx) (M : Mem) : cellE G M 58 (layF 58) = .inl (G.2.2.1 20, 10, .inl (M.1 58)) := by
  have h : layF 58 = (20, 10, []) := rfl
  rw [h]
  exact if_neg (by decide)
theorem at_59 (G : Gx) (M : Mem) : cellE G M 59 (layF 59) = .inl (G.2.2.1 20, 10, .inl (M.1 59)) := by
  have h : layF 59 = (20, 10, []) := rfl
  rw [h]
  exact if_neg (by decide)
theorem at_60 (G : Gx) (M : Mem) : cellE G M 60 (layF 60) = .inr (0, [.ref (G.2.1 61), .ref (G.2.1 62), .ref (G.2.1 63), .int (M.1 60 3), .int (M.1 60 4), .ref (G.2.1 64), .ref (G.2.1 65), .ref (G.2.1 66), .int (M.1 60 8)]) := by
  have h : layF 60 = (0, 0, [63, 64, 65, 0, 0, 66, 67, 68, 0]) := rfl
  rw [h]
  unfold cellE
  rw [if_pos (by decide)]
  dsimp only
  rw [mi_9]
  rfl
theorem at_61 (G : Gx) (M : Mem) : cellE G M 61 (layF 61) = .inl (G.2.2.1 20, 16, .inl (M.1 61)) := by
  have h : layF 61 = (20, 16, []) := rfl
  rw [h]
  exact if_neg (by decide)
theorem at_62 (G : Gx) (M : Mem) : cellE G M 62 (layF 62) = .inl (G.2.2.1 20, 16, .inl (M.1 62)) := by
  have h : layF 62 = (20, 16, []) := rfl
  rw [h]
  exact if_neg (by decide)
theorem at_63 (G : Gx) (M : Mem) : cellE G M 63 (layF 63) = .inl (G.2.2.1 20, 4, .inl (M.1 63)) := by
  have h : layF 63 = (20, 4, []) := rfl
  rw [h]
  exact if_neg (by decide)
theorem at_64 (G : Gx) (M : Mem) : cellE G M 64 (layF 64) = .inl (G.2.2.1 20, 10, .inl (M.1 64)) := by
  have h : layF 64 = (20, 10, []) := rfl
  rw [h]
  exact if_neg (by decide)
theorem at_65 (G : Gx) (M : Mem) : cellE G M 65 (layF 65) = .inl (G.2.2.1 20, 10, .inl (M.1 65)) := by
  have h : layF 65 = (20, 10, []) := rfl
  rw [h]
  exact if_neg (by decide)
theorem at_66 (G : Gx) (M : Mem) : cellE G M 66 (layF 66) = .inl (G.2.2.1 20, 10, .inl (M.1 66)) := by
  have h : layF 66 = (20, 10, []) := rfl
  rw [h]
  exact if_neg (by decide)
theorem at_67 (G : Gx) (M : Mem) : cellE G M 67 (layF 67) = .inr (5, [.ref (G.2.1 68)]) := by
  have h : layF 67 = (5, 0, [70]) := rfl
  rw [h]
  unfold cellE
  rw [if_pos (by decide)]
  dsimp only
  rw [mi_1]
  rfl
theorem at_68 (G : Gx) (M : Mem) : cellE G M 68 (layF 68) = .inl (G.2.2.1 20, 11, .inl (M.1 68)) := by
  have h : layF 68 = (20, 11, []) := rfl
  rw [h]
  exact if_neg (by decide)
theorem at_69 (G : Gx) (M : Mem) : cellE G M 69 (layF 69) = .inr (1, [.int (M.1 69 0), .int (M.1 69 1), .int (M.1 69 2), .int (M.1 69 3)]) := by
  have h : layF 69 = (1, 0, [0, 0, 0, 0]) := rfl
  rw [h]
  unfold cellE
  rw [if_pos (by decide)]
  dsimp only
  rw [mi_4]
  rfl
theorem at_70 (G : Gx) (M : Mem) : cellE G M 70 (layF 70) = .inr (2, [.int (M.1 70 0), .ref (G.2.1 71), .ref (G.2.1 72), .ref (G.2.1 73), .int (M.1 70 4), .int (M.1 70 5)]) := by
  have h : layF 70 = (2, 0, [0, 73, 74, 75, 0, 0]) := rfl
  rw [h]
  unfold cellE
  rw [if_pos (by decide)]
  dsimp only
  rw [mi_6]
  rfl
theorem at_71 (G : Gx) (M : Mem) : cellE G M 71 (layF 71) = .inl (G.2.2.1 20, 16, .inl (M.1 71)) := by
  have h : layF 71 = (20, 16, []) := rfl
  rw [h]
  exact if_neg (by decide)
theorem at_72 (G : Gx) (M : Mem) : cellE G M 72 (layF 72) = .inl (G.2.2.1 20, 16, .inl (M.1 72)) := by
  have h : layF 72 = (20, 16, []) := rfl
  rw [h]
  exact if_neg (by decide)
theorem at_73 (G : Gx) (M : Mem) : cellE G M 73 (layF 73) = .inl (G.2.2.1 20, 4, .inl (M.1 73)) := by
  have h : layF 73 = (20, 4, []) := rfl
  rw [h]
  exact if_neg (by decide)
theorem wl_list (G : Gx) (M : Mem) : wl G M = [(G.2.1 0, cellE G M 0 (layF 0)), (G.2.1 1, cellE G M 1 (layF 1)), (G.2.1 2, cellE G M 2 (layF 2)), (G.2.1 3, cellE G M 3 (layF 3)), (G.2.1 4, cellE G M 4 (layF 4)), (G.2.1 5, cellE G M 5 (layF 5)), (G.2.1 6, cellE G M 6 (layF 6)), (G.2.1 7, cellE G M 7 (layF 7)), (G.2.1 8, cellE G M 8 (layF 8)), (G.2.1 9, cellE G M 9 (layF 9)), (G.2.1 10, cellE G M 10 (layF 10)), (G.2.1 11, cellE G M 11 (layF 11)), (G.2.1 12, cellE G M 12 (layF 12)), (G.2.1 13, cellE G M 13 (layF 13)), (G.2.1 14, cellE G M 14 (layF 14)), (G.2.1 15, cellE G M 15 (layF 15)), (G.2.1 16, cellE G M 16 (layF 16)), (G.2.1 17, cellE G M 17 (layF 17)), (G.2.1 18, cellE G M 18 (layF 18)), (G.2.1 19, cellE G M 19 (layF 19)), (G.2.1 20, cellE G M 20 (layF 20)), (G.2.1 21, cellE G M 21 (layF 21)), (G.2.1 22, cellE G M 22 (layF 22)), (G.2.1 23, cellE G M 23 (layF 23)), (G.2.1 24, cellE G M 24 (layF 24)), (G.2.1 25, cellE G M 25 (layF 25)), (G.2.1 26, cellE G M 26 (layF 26)), (G.2.1 27, cellE G M 27 (layF 27)), (G.2.1 28, cellE G M 28 (layF 28)), (G.2.1 29, cellE G M 29 (layF 29)), (G.2.1 30, cellE G M 30 (layF 30)), (G.2.1 31, cellE G M 31 (layF 31)), (G.2.1 32, cellE G M 32 (layF 32)), (G.2.1 33, cellE G M 33 (layF 33)), (G.2.1 34, cellE G M 34 (layF 34)), (G.2.1 35, cellE G M 35 (layF 35)), (G.2.1 36, cellE G M 36 (layF 36)), (G.2.1 37, cellE G M 37 (layF 37)), (G.2.1 38, cellE G M 38 (layF 38)), (G.2.1 39, cellE G M 39 (layF 39)), (G.2.1 40, cellE G M 40 (layF 40)), (G.2.1 41, cellE G M 41 (layF 41)), (G.2.1 42, cellE G M 42 (layF 42)), (G.2.1 43, cellE G M 43 (layF 43)), (G.2.1 44, cellE G M 44 (layF 44)), (G.2.1 45, cellE G M 45 (layF 45)), (G.2.1 46, cellE G M 46 (layF 46)), (G.2.1 47, cellE G M 47 (layF 47)), (G.2.1 48, cellE G M 48 (layF 48)), (G.2.1 49, cellE G M 49 (layF 49)), (G.2.1 50, cellE G M 50 (layF 50)), (G.2.1 51, cellE G M 51 (layF 51)), (G.2.1 52, cellE G M 52 (layF 52)), (G.2.1 53, cellE G M 53 (layF 53)), (G.2.1 54, cellE G M 54 (layF 54)), (G.2.1 55, cellE G M 55 (layF 55)), (G.2.1 56, cellE G M 56 (layF 56)), (G.2.1 57, cellE G M 57 (layF 57)), (G.2.1 58, cellE G M 58 (layF 58)), (G.2.1 59, cellE G M 59 (layF 59)), (G.2.1 60, cellE G M 60 (layF 60)), (G.2.1 61, cellE G M 61 (layF 61)), (G.2.1 62, cellE G M 62 (layF 62)), (G.2.1 63, cellE G M 63 (layF 63)), (G.2.1 64, cellE G M 64 (layF 64)), (G.2.1 65, cellE G M 65 (layF 65)), (G.2.1 66, cellE G M 66 (layF 66)), (G.2.1 67, cellE G M 67 (layF 67)), (G.2.1 68, cellE G M 68 (layF 68)), (G.2.1 69, cellE G M 69 (layF 69)), (G.2.1 70, cellE G M 70 (layF 70)), (G.2.1 71, cellE G M 71 (layF 71)), (G.2.1 72, cellE G M 72 (layF 72)), (G.2.1 73, cellE G M 73 (layF 73))] := rfl
theorem wl_at74 (G : Gx) (M : Mem) : wl G M = [(G.2.1 0, .inr (6, [.ref (G.2.1 1), .ref (G.2.1 6), .ref (G.2.1 9), .ref (G.2.1 16), .ref (G.2.1 23), .ref (G.2.1 30), .ref (G.2.1 32), .ref (G.2.1 33), .int (M.1 0 8), .int (M.1 0 9), .int (M.1 0 10), .long (M.2 0)])), (G.2.1 1, .inr (4, [.ref (G.2.1 2), .int (M.1 1 1), .ref (G.2.1 3), .int (M.1 1 3), .int (M.1 1 4), .int (M.1 1 5), .int (M.1 1 6), .int (M.1 1 7), .int (M.1 1 8), .int (M.1 1 9)])), (G.2.1 2, .inl (G.2.2.1 20, 150, .inl (M.1 2))), (G.2.1 3, .inr (3, [.int (M.1 3 0), .int (M.1 3 1), .int (M.1 3 2), .int (M.1 3 3), .int (M.1 3 4), .ref (G.2.1 4), .ref (G.2.1 5)])), (G.2.1 4, .inl (G.2.2.1 20, 16, .inl (M.1 4))), (G.2.1 5, .inl (G.2.2.1 20, 4, .inl (M.1 5))), (G.2.1 6, .inr (3, [.int (M.1 6 0), .int (M.1 6 1), .int (M.1 6 2), .int (M.1 6 3), .int (M.1 6 4), .ref (G.2.1 7), .ref (G.2.1 8)])), (G.2.1 7, .inl (G.2.2.1 20, 16, .inl (M.1 7))), (G.2.1 8, .inl (G.2.2.1 20, 4, .inl (M.1 8))), (G.2.1 9, .inr (0, [.ref (G.2.1 10), .ref (G.2.1 11), .ref (G.2.1 12), .int (M.1 9 3), .int (M.1 9 4), .ref (G.2.1 13), .ref (G.2.1 14), .ref (G.2.1 15), .int (M.1 9 8)])), (G.2.1 10, .inl (G.2.2.1 20, 16, .inl (M.1 10))), (G.2.1 11, .inl (G.2.2.1 20, 16, .inl (M.1 11))), (G.2.1 12, .inl (G.2.2.1 20, 4, .inl (M.1 12))), (G.2.1 13, .inl (G.2.2.1 20, 10, .inl (M.1 13))), (G.2.1 14, .inl (G.2.2.1 20, 10, .inl (M.1 14))), (G.2.1 15, .inl (G.2.2.1 20, 10, .inl (M.1 15))), (G.2.1 16, .inr (0, [.ref (G.2.1 17), .ref (G.2.1 18), .ref (G.2.1 19), .int (M.1 16 3), .int (M.1 16 4), .ref (G.2.1 20), .ref (G.2.1 21), .ref (G.2.1 22), .int (M.1 16 8)])), (G.2.1 17, .inl (G.2.2.1 20, 16, .inl (M.1 17))), (G.2.1 18, .inl (G.2.2.1 20, 16, .inl (M.1 18))), (G.2.1 19, .inl (G.2.2.1 20, 4, .inl (M.1 19))), (G.2.1 20, .inl (G.2.2.1 20, 10, .inl (M.1 20))), (G.2.1 21, .inl (G.2.2.1 20, 10, .inl (M.1 21))), (G.2.1 22, .inl (G.2.2.1 20, 10, .inl (M.1 22))), (G.2.1 23, .inr (0, [.ref (G.2.1 24), .ref (G.2.1 25), .ref (G.2.1 26), .int (M.1 23 3), .int (M.1 23 4), .ref (G.2.1 27), .ref (G.2.1 28), .ref (G.2.1 29), .int (M.1 23 8)])), (G.2.1 24, .inl (G.2.2.1 20, 16, .inl (M.1 24))), (G.2.1 25, .inl (G.2.2.1 20, 16, .inl (M.1 25))), (G.2.1 26, .inl (G.2.2.1 20, 4, .inl (M.1 26))), (G.2.1 27, .inl (G.2.2.1 20, 10, .inl (M.1 27))), (G.2.1 28, .inl (G.2.2.1 20, 10, .inl (M.1 28))), (G.2.1 29, .inl (G.2.2.1 20, 10, .inl (M.1 29))), (G.2.1 30, .inr (5, [.ref (G.2.1 31)])), (G.2.1 31, .inl (G.2.2.1 20, 11, .inl (M.1 31))), (G.2.1 32, .inr (1, [.int (M.1 32 0), .int (M.1 32 1), .int (M.1 32 2), .int (M.1 32 3)])), (G.2.1 33, .inr (2, [.int (M.1 33 0), .ref (G.2.1 34), .ref (G.2.1 35), .ref (G.2.1 36), .int (M.1 33 4), .int (M.1 33 5)])), (G.2.1 34, .inl (G.2.2.1 20, 16, .inl (M.1 34))), (G.2.1 35, .inl (G.2.2.1 20, 16, .inl (M.1 35))), (G.2.1 36, .inl (G.2.2.1 20, 4, .inl (M.1 36))), (G.2.1 37, .inr (6, [.ref (G.2.1 38), .ref (G.2.1 43), .ref (G.2.1 46), .ref (G.2.1 53), .ref (G.2.1 60), .ref (G.2.1 67), .ref (G.2.1 69), .ref (G.2.1 70), .int (M.1 37 8), .int (M.1 37 9), .int (M.1 37 10), .long (M.2 37)])), (G.2.1 38, .inr (4, [.ref (G.2.1 39), .int (M.1 38 1), .ref (G.2.1 40), .int (M.1 38 3), .int (M.1 38 4), .int (M.1 38 5), .int (M.1 38 6), .int (M.1 38 7), .int (M.1 38 8), .int (M.1 38 9)])), (G.2.1 39, .inl (G.2.2.1 20, 150, .inl (M.1 39))), (G.2.1 40, .inr (3, [.int (M.1 40 0), .int (M.1 40 1), .int (M.1 40 2), .int (M.1 40 3), .int (M.1 40 4), .ref (G.2.1 41), .ref (G.2.1 42)])), (G.2.1 41, .inl (G.2.2.1 20, 16, .inl (M.1 41))), (G.2.1 42, .inl (G.2.2.1 20, 4, .inl (M.1 42))), (G.2.1 43, .inr (3, [.int (M.1 43 0), .int (M.1 43 1), .int (M.1 43 2), .int (M.1 43 3), .int (M.1 43 4), .ref (G.2.1 44), .ref (G.2.1 45)])), (G.2.1 44, .inl (G.2.2.1 20, 16, .inl (M.1 44))), (G.2.1 45, .inl (G.2.2.1 20, 4, .inl (M.1 45))), (G.2.1 46, .inr (0, [.ref (G.2.1 47), .ref (G.2.1 48), .ref (G.2.1 49), .int (M.1 46 3), .int (M.1 46 4), .ref (G.2.1 50), .ref (G.2.1 51), .ref (G.2.1 52), .int (M.1 46 8)])), (G.2.1 47, .inl (G.2.2.1 20, 16, .inl (M.1 47))), (G.2.1 48, .inl (G.2.2.1 20, 16, .inl (M.1 48))), (G.2.1 49, .inl (G.2.2.1 20, 4, .inl (M.1 49))), (G.2.1 50, .inl (G.2.2.1 20, 10, .inl (M.1 50))), (G.2.1 51, .inl (G.2.2.1 20, 10, .inl (M.1 51))), (G.2.1 52, .inl (G.2.2.1 20, 10, .inl (M.1 52))), (G.2.1 53, .inr (0, [.ref (G.2.1 54), .ref (G.2.1 55), .ref (G.2.1 56), .int (M.1 53 3), .int (M.1 53 4), .ref (G.2.1 57), .ref (G.2.1 58), .ref (G.2.1 59), .int (M.1 53 8)])), (G.2.1 54, .inl (G.2.2.1 20, 16, .inl (M.1 54))), (G.2.1 55, .inl (G.2.2.1 20, 16, .inl (M.1 55))), (G.2.1 56, .inl (G.2.2.1 20, 4, .inl (M.1 56))), (G.2.1 57, .inl (G.2.2.1 20, 10, .inl (M.1 57))), (G.2.1 58, .inl (G.2.2.1 20, 10, .inl (M.1 58))), (G.2.1 59, .inl (G.2.2.1 20, 10, .inl (M.1 59))), (G.2.1 60, .inr (0, [.ref (G.2.1 61), .ref (G.2.1 62), .ref (G.2.1 63), .int (M.1 60 3), .int (M.1 60 4), .ref (G.2.1 64), .ref (G.2.1 65), .ref (G.2.1 66), .int (M.1 60 8)])), (G.2.1 61, .inl (G.2.2.1 20, 16, .inl (M.1 61))), (G.2.1 62, .inl (G.2.2.1 20, 16, .inl (M.1 62))), (G.2.1 63, .inl (G.2.2.1 20, 4, .inl (M.1 63))), (G.2.1 64, .inl (G.2.2.1 20, 10, .inl (M.1 64))), (G.2.1 65, .inl (G.2.2.1 20, 10, .inl (M.1 65))), (G.2.1 66, .inl (G.2.2.1 20, 10, .inl (M.1 66))), (G.2.1 67, .inr (5, [.ref (G.2.1 68)])), (G.2.1 68, .inl (G.2.2.1 20, 11, .inl (M.1 68))), (G.2.1 69, .inr (1, [.int (M.1 69 0), .int (M.1 69 1), .int (M.1 69 2), .int (M.1 69 3)])), (G.2.1 70, .inr (2, [.int (M.1 70 0), .ref (G.2.1 71), .ref (G.2.1 72), .ref (G.2.1 73), .int (M.1 70 4), .int (M.1 70 5)])), (G.2.1 71, .inl (G.2.2.1 20, 16, .inl (M.1 71))), (G.2.1 72, .inl (G.2.2.1 20, 16, .inl (M.1 72))), (G.2.1 73, .inl (G.2.2.1 20, 4, .inl (M.1 73)))] := by
  rw [wl_list, at_0, at_1, at_2, at_3, at_4, at_5, at_6, at_7, at_8, at_9, at_10, at_11, at_12, at_13, at_14, at_15, at_16, at_17, at_18, at_19, at_20, at_21, at_22, at_23, at_24, at_25, at_26, at_27, at_28, at_29, at_30, at_31, at_32, at_33, at_34, at_35, at_36, at_37, at_38, at_39, at_40, at_41, at_42, at_43, at_44, at_45, at_46, at_47, at_48, at_49, at_50, at_51, at_52, at_53, at_54, at_55, at_56, at_57, at_58, at_59, at_60, at_61, at_62, at_63, at_64, at_65, at_66, at_67, at_68, at_69, at_70, at_71, at_72, at_73]
def adF (as : List Nat) (t : Nat → Nat) (b : Nat) : Nat → Nat := fun p => if p < 74 then as.getD p 0 else if p < 104 then t (p - 100) else b
def MF (fs : List (Nat → Int32)) (xs : Nat → Int32) (L : Nat) : Mem := (fun p => if p < 74 then fs.getD p (fun _ => 0) else if p = 104 then xs else fun _ => nI L, fun _ => 0)
set_option maxRecDepth 100000 in
theorem wl_74 {D : va_G} {cI : ClassId} {A : Nat → Prop} (a0 a1 a2 a3 a4 a5 a6 a7 a8 a9 a10 a11 a12 a13 a14 a15 a16 a17 a18 a19 a20 a21 a22 a23 a24 a25 a26 a27 a28 a29 a30 a31 a32 a33 a34 a35 a36 a37 a38 a39 a40 a41 a42 a43 a44 a45 a46 a47 a48 a49 a50 a51 a52 a53 a54 a55 a56 a57 a58 a59 a60 a61 a62 a63 a64 a65 a66 a67 a68 a69 a70 a71 a72 a73 : Nat) (f2 f4 f5 f7 f8 f10 f11 f12 f13 f14 f15 f17 f18 f19 f20 f21 f22 f24 f25 f26 f27 f28 f29 f31 f34 f35 f36 f39 f41 f42 f44 f45 f47 f48 f49 f50 f51 f52 f54 f55 f56 f57 f58 f59 f61 f62 f63 f64 f65 f66 f68 f71 f72 f73 : Nat → Int32) (t : Nat → Nat) (b : Nat) (xs : Nat → Int32) (L : Nat) : wl (D, adF [a0, a1, a2, a3, a4, a5, a6, a7, a8, a9, a10, a11, a12, a13, a14, a15, a16, a17, a18, a19, a20, a21, a22, a23, a24, a25, a26, a27, a28, a29, a30, a31, a32, a33, a34, a35, a36, a37, a38, a39, a40, a41, a42, a43, a44, a45, a46, a47, a48, a49, a50, a51, a52, a53, a54, a55, a56, a57, a58, a59, a60, a61, a62, a63, a64, a65, a66, a67, a68, a69, a70, a71, a72, a73] t b, kcl cI, A) (MF [(fun _ => 0), (fun _ => 0), f2, (fun _ => 0), f4, f5, (fun _ => 0), f7, f8, (fun _ => 0), f10, f11, f12, f13, f14, f15, (fun _ => 0), f17, f18, f19, f20, f21, f22, (fun _ => 0), f24, f25, f26, f27, f28, f29, (fun _ => 0), f31, (fun _ => 0), (fun k => if k = 0 then -9 else 0), f34, f35, f36, (fun _ => 0), (fun _ => 0), f39, (fun _ => 0), f41, f42, (fun _ => 0), f44, f45, (fun _ => 0), f47, f48, f49, f50, f51, f52, (fun _ => 0), f54, f55, f56, f57, f58, f59, (fun _ => 0), f61, f62, f63, f64, f65, f66, (fun _ => 0), f68, (fun _ => 0), (fun k => if k = 0 then -9 else 0), f71, f72, f73] xs L) = [(a0, .inr (6, [.ref a1, .ref a6, .ref a9, .ref a16, .ref a23, .ref a30, .ref a32, .ref a33, .int 0, .int 0, .int 0, .long 0])), (a1, .inr (4, [.ref a2, .int 0, .ref a3, .int 0, .int 0, .int 0, .int 0, .int 0, .int 0, .int 0])), (a2, .inl (cI, 150, .inl f2)), (a3, .inr (3, [.int 0, .int 0, .int 0, .int 0, .int 0, .ref a4, .ref a5])), (a4, .inl (cI, 16, .inl f4)), (a5, .inl (cI, 4, .inl f5)), (a6, .inr (3, [.int 0, .int 0, .int 0, .int 0, .int 0, .ref a7, .ref a8])), (a7, .inl (cI, 16, .inl f7)), (a8, .inl (cI, 4, .inl f8)), (a9, .inr (0, [.ref a10, .ref a11, .ref a12, .int 0, .int 0, .ref a13, .ref a14, .ref a15, .int 0])), (a10, .inl (cI, 16, .inl f10)), (a11, .inl (cI, 16, .inl f11)), (a12, .inl (cI, 4, .inl f12)), (a13, .inl (cI, 10, .inl f13)), (a14, .inl (cI, 10, .inl f14)), (a15, .inl (cI, 10, .inl f15)), (a16, .inr (0, [.ref a17, .ref a18, .ref a19, .int 0, .int 0, .ref a20, .ref a21, .ref a22, .int 0])), (a17, .inl (cI, 16, .inl f17)), (a18, .inl (cI, 16, .inl f18)), (a19, .inl (cI, 4, .inl f19)), (a20, .inl (cI, 10, .inl f20)), (a21, .inl (cI, 10, .inl f21)), (a22, .inl (cI, 10, .inl f22)), (a23, .inr (0, [.ref a24, .ref a25, .ref a26, .int 0, .int 0, .ref a27, .ref a28, .ref a29, .int 0])), (a24, .inl (cI, 16, .inl f24)), (a25, .inl (cI, 16, .inl f25)), (a26, .inl (cI, 4, .inl f26)), (a27, .inl (cI, 10, .inl f27)), (a28, .inl (cI, 10, .inl f28)), (a29, .inl (cI, 10, .inl f29)), (a30, .inr (5, [.ref a31])), (a31, .inl (cI, 11, .inl f31)), (a32, .inr (1, [.int 0, .int 0, .int 0, .int 0])), (a33, .inr (2, [.int (-9), .ref a34, .ref a35, .ref a36, .int 0, .int 0])), (a34, .inl (cI, 16, .inl f34)), (a35, .inl (cI, 16, .inl f35)), (a36, .inl (cI, 4, .inl f36)), (a37, .inr (6, [.ref a38, .ref a43, .ref a46, .ref a53, .ref a60, .ref a67, .ref a69, .ref a70, .int 0, .int 0, .int 0, .long 0])), (a38, .inr (4, [.ref a39, .int 0, .ref a40, .int 0, .int 0, .int 0, .int 0, .int 0, .int 0, .int 0])), (a39, .inl (cI, 150, .inl f39)), (a40, .inr (3, [.int 0, .int 0, .int 0, .int 0, .int 0, .ref a41, .ref a42])), (a41, .inl (cI, 16, .inl f41)), (a42, .inl (cI, 4, .inl f42)), (a43, .inr (3, [.int 0, .int 0, .int 0, .int 0, .int 0, .ref a44, .ref a45])), (a44, .inl (cI, 16, .inl f44)), (a45, .inl (cI, 4, .inl f45)), (a46, .inr (0, [.ref a47, .ref a48, .ref a49, .int 0, .int 0, .ref a50, .ref a51, .ref a52, .int 0])), (a47, .inl (cI, 16, .inl f47)), (a48, .inl (cI, 16, .inl f48)), (a49, .inl (cI, 4, .inl f49)), (a50, .inl (cI, 10, .inl f50)), (a51, .inl (cI, 10, .inl f51)), (a52, .inl (cI, 10, .inl f52)), (a53, .inr (0, [.ref a54, .ref a55, .ref a56, .int 0, .int 0, .ref a57, .ref a58, .ref a59, .int 0])), (a54, .inl (cI, 16, .inl f54)), (a55, .inl (cI, 16, .inl f55)), (a56, .inl (cI, 4, .inl f56)), (a57, .inl (cI, 10, .inl f57)), (a58, .inl (cI, 10, .inl f58)), (a59, .inl (cI, 10, .inl f59)), (a60, .inr (0, [.ref a61, .ref a62, .ref a63, .int 0, .int 0, .ref a64, .ref a65, .ref a66, .int 0])), (a61, .inl (cI, 16, .inl f61)), (a62, .inl (cI, 16, .inl f62)), (a63, .inl (cI, 4, .inl f63)), (a64, .inl (cI, 10, .inl f64)), (a65, .inl (cI, 10, .inl f65)), (a66, .inl (cI, 10, .inl f66)), (a67, .inr (5, [.ref a68])), (a68, .inl (cI, 11, .inl f68)), (a69, .inr (1, [.int 0, .int 0, .int 0, .int 0])), (a70, .inr (2, [.int (-9), .ref a71, .ref a72, .ref a73, .int 0, .int 0])), (a71, .inl (cI, 16, .inl f71)), (a72, .inl (cI, 16, .inl f72)), (a73, .inl (cI, 4, .inl f73))] := by
  rw [wl_at74]
  rfl
theorem adF_t {as : List Nat} {t : Nat → Nat} {b j : Nat} (h : j < 4) : adF as t b (100 + j) = t j := by
  unfold adF
  rw [if_neg (by omega), if_pos (by omega), show 100 + j - 100 = j by omega]
theorem adF_b {as : List Nat} {t : Nat → Nat} {b : Nat} : adF as t b 104 = b := rfl
theorem MF_x {fs : List (Nat → Int32)} {xs : Nat → Int32} {L : Nat} : (MF fs xs L).1 104 = xs := rfl
theorem MF_l {fs : List (Nat → Int32)} {xs : Nat → Int32} {L : Nat} : (MF fs xs L).1 105 0 = nI L := rfl
theorem inv_start {M : Mem} (h0 : M.1 0 = fun _ => 0) (h1 : M.1 1 = fun _ => 0) (h6 : M.1 6 = fun _ => 0) (h9 : M.1 9 = fun _ => 0) (h11 : ∀ u, u < 16 → M.1 11 u = -9) (h12 : ∀ z, z < 4 → M.1 12 z = 4) (c0 : M.2 0 = 0) : RC (sgD drN 0) M := by
  have noT : ∀ k, thr drN.1 k = true → False := fun k h => by
    unfold thr at h
    rw [decide_eq_false (show ¬ k % 4 < pW drN.1 from Nat.not_lt_zero _), Bool.false_and] at h
    cases h
  have g0 : ∀ k, M.1 0 k = 0 := fun k => congrFun h0 k
  have g1 : ∀ k, M.1 1 k = 0 := fun k => congrFun h1 k
  have g6 : ∀ k, M.1 6 k = 0 := fun k => congrFun h6 k
  have g9 : ∀ k, M.1 9 k = 0 := fun k => congrFun h9 k
  have nl : ∀ {α : Type} {j : Nat} {e : α} {P : Prop}, ([] : List α)[j]? = some e → P := fun h => by rw [List.getElem?_nil] at h; cases h
  have a1 : RCt [] M := ⟨g1 1, fun j c hj => nl hj⟩
  have a2 : RCp drN.1 M := ⟨g6 0, g6 1, g6 2, (g6 3).trans sI_none.symm, (g6 4).trans sI_none.symm⟩
  have a3 : RCg 9 drN.1 ((drN.2.1, fun _ => none, drN.2.2.1, fun _ => false, 0), []) M := ⟨fun k _ h => (noT k h).elim, h11, h12, (g9 3).trans sI_none.symm, g9 4, g9 8, fun j e hj => nl hj⟩
  have a4 : RCi drN.1 (none, none) M := ⟨(g0 8).trans (Eq.symm (sI_zero.mpr (fun k _ => by
    show ((decide (k = 0) && false) || (decide (k = 1) && false)) = false
    simp))), fun gh hg => (by cases hg), fun gh hg => (by cases hg)⟩
  have a5 : RCs [] M := ⟨(g0 9).trans (Eq.symm (sI_zero.mpr (fun k _ => decide_eq_false List.not_mem_nil))), g0 10⟩
  exact ⟨a1, a2, a3, a4, a5, c0⟩
