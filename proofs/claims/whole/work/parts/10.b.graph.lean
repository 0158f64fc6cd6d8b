/-! the cells of the class and of the reference, in the order in which they are made -/
def G0 : List Shp := [
  .inr (7, [4, 5, 7, 9, 13, 17, 24, 28]),
  .inr (1, [0, 0, 1, 1, 1]),
  .inr (5, [4, 6]), .inl (1, 6),
  .inr (5, [4, 8]), .inl (1, 6),
  .inr (0, [10, 11, 12, 0]), .inl (0, 6), .inl (0, 6), .inl (0, 6),
  .inr (2, [4, 7, 9, 14, 15, 16]), .inl (2, 36), .inl (0, 6), .inl (0, 6),
  .inr (3, [18, 19, 20, 21, 22, 23, 1, 0, 0]), .inl (1, 324), .inl (1, 37), .inl (1, 37), .inl (1, 37), .inl (0, 37), .inl (0, 37),
  .inr (6, [4, 17, 25, 26]), .inl (0, 6),
  .inr (5, [4, 27]), .inl (1, 6),
  .inr (4, [29, 30, 31]), .inl (0, 18), .inl (0, 24), .inl (0, 6),
  .inr (8, [0, 0, 0, 33, 34, 35, 0, 36, 37, 38, 39, 40, 0, 41, 42, 43, 44, 45, 46, 47, 48, 49, 50, 51, 52]),
  .inl (0, 36), .inl (0, 36), .inl (0, 6), .inl (0, 6), .inl (2, 36), .inl (0, 36), .inl (2, 36), .inl (0, 6),
  .inl (0, 37), .inl (0, 37), .inl (0, 37), .inl (0, 37), .inl (0, 37), .inl (0, 37), .inl (0, 37), .inl (2, 37), .inl (0, 6), .inl (0, 64), .inl (0, 18), .inl (0, 24)]
section T1
variable {X : Cx} {l : Launch} {M : Mem}
theorem f_size {x0 : Shp} {G : List Shp} : PF X l mX1_size 0 [.ref 1] (x0 :: .inr (1, [0, 0, 1, 1, 1]) :: G) M (.int (M.1 1 0 * M.1 1 1)) := by
  refine PF.ofW okX1_size ?_
  refine PW.iret rfl rfl trivial ⟨rfl, rfl⟩
theorem f_columnOf (c : Int32) : PF X l mX1_columnOf 0 [.ref 1, .int c] G0 M (.int (if M.1 1 0 < 1 then 0 else c - c / M.1 1 0 * M.1 1 0)) := by
  refine PF.ofW okX1_columnOf ?_
  refine PW.ige rfl trivial (fun h => ?_) (fun h => ?_)
  · refine PW.iret rfl rfl ⟨trivial, ?_⟩ ⟨?_, rfl⟩
    · intro h0; rw [h0] at h; exact absurd h (by decide)
    · rw [if_neg (Int32.not_lt.mpr h)]
  · refine PW.goto rfl trivial ?_
    refine PW.iret rfl rfl trivial ⟨?_, rfl⟩
    rw [if_pos (Int32.not_le.mp h)]
theorem f_knows (c : Int32) : PF X l mX1_knows 1 [.ref 1, .int c] G0 M (.int (if 0 ≤ c ∧ c < M.1 1 0 * M.1 1 1 then 1 else 0)) := by
  refine PF.ofW okX1_knows ?_
  refine PW.zlt rfl trivial (fun h => ?_) (fun h => ?_)
  · refine PW.zret rfl rfl trivial rfl ⟨?_, rfl⟩
    rw [if_neg (fun q => absurd h (Int32.not_lt.mpr q.1))]
  · refine PW.funV rfl trivial sX1_32 rfl rfl (by decide) rfl f_size ?_
    refine PW.ige rfl trivial (fun h2 => ?_) (fun h2 => ?_)
    · refine PW.zret rfl rfl trivial rfl ⟨?_, rfl⟩
      rw [if_neg (fun q => absurd q.2 (Int32.not_lt.mpr h2))]
    · refine PW.goto rfl trivial ?_
      refine PW.zret rfl rfl trivial rfl ⟨?_, rfl⟩
      rw [if_pos ⟨Int32.not_lt.mp h, Int32.not_le.mp h2⟩]
end T1
