/-! THE WORLD behind both constructors: which cell is what (0 the class, 89 the reference), which cells they hold for good -/
def S0 : Sh := fun a => match a with
  | 0 => .inr 10
  | 1 => .inl (1, 600)
  | 2 => .inr 1
  | 3 => .inl (1, 5200)
  | 4 => .inl (1, 5200)
  | 5 => .inl (1, 5200)
  | 6 => .inl (2, 5200)
  | 7 => .inl (1, 5200)
  | 8 => .inl (1, 5200)
  | 9 => .inl (1, 1024)
  | 10 => .inr 2
  | 11 => .inl (1, 6)
  | 12 => .inl (1, 6)
  | 13 => .inl (1, 6)
  | 14 => .inr 6
  | 15 => .inl (2, 22)
  | 16 => .inr 2
  | 17 => .inl (1, 6)
  | 18 => .inl (1, 6)
  | 19 => .inl (1, 6)
  | 20 => .inl (1, 30)
  | 21 => .inl (1, 854)
  | 22 => .inl (1, 24)
  | 23 => .inl (1, 120)
  | 24 => .inl (4, 4)
  | 25 => .inr 9
  | 26 => .inl (1, 200)
  | 27 => .inl (1, 200)
  | 28 => .inr 9
  | 29 => .inl (1, 200)
  | 30 => .inl (1, 200)
  | 31 => .inr 9
  | 32 => .inl (1, 200)
  | 33 => .inl (1, 200)
  | 34 => .inr 9
  | 35 => .inl (1, 200)
  | 36 => .inl (1, 200)
  | 37 => .inr 9
  | 38 => .inl (1, 200)
  | 39 => .inl (1, 200)
  | 40 => .inr 3
  | 41 => .inl (1, 200)
  | 42 => .inl (1, 200)
  | 43 => .inl (1, 200)
  | 44 => .inl (1, 200)
  | 45 => .inl (1, 200)
  | 46 => .inl (1, 200)
  | 47 => .inl (1, 200)
  | 48 => .inl (1, 200)
  | 49 => .inl (1, 400)
  | 50 => .inr 9
  | 51 => .inl (1, 200)
  | 52 => .inl (1, 200)
  | 53 => .inr 7
  | 54 => .inr 9
  | 55 => .inl (1, 200)
  | 56 => .inl (1, 200)
  | 57 => .inr 9
  | 58 => .inl (1, 200)
  | 59 => .inl (1, 200)
  | 60 => .inr 9
  | 61 => .inl (1, 200)
  | 62 => .inl (1, 200)
  | 63 => .inr 9
  | 64 => .inl (1, 200)
  | 65 => .inl (1, 200)
  | 66 => .inr 8
  | 67 => .inr 4
  | 68 => .inl (1, 406)
  | 69 => .inl (1, 406)
  | 70 => .inl (1, 406)
  | 71 => .inl (1, 1218)
  | 72 => .inl (1, 200)
  | 73 => .inl (1, 200)
  | 74 => .inr 5
  | 75 => .inl (1, 5200)
  | 76 => .inl (1, 420)
  | 77 => .inl (1, 420)
  | 78 => .inl (1, 420)
  | 79 => .inl (2, 420)
  | 80 => .inr 0
  | 81 => .inl (1, 40)
  | 82 => .inl (2, 40)
  | 83 => .inl (2, 40)
  | 84 => .inl (2, 8192)
  | 85 => .inl (2, 8192)
  | 86 => .inr 99
  | 87 => .inl (1, 60)
  | 88 => .inl (1, 60)
  | 89 => .inr 11
  | 90 => .inl (1, 16384)
  | 91 => .inl (1, 16384)
  | 92 => .inl (1, 16384)
  | 93 => .inl (1, 16384)
  | 94 => .inl (1, 1024)
  | 95 => .inl (1, 16384)
  | 96 => .inl (1, 24)
  | 97 => .inl (1, 6)
  | 98 => .inl (1, 6)
  | 99 => .inl (1, 24)
  | 100 => .inl (1, 6)
  | 101 => .inl (1, 6)
  | 102 => .inl (1, 800)
  | 103 => .inl (1, 800)
  | 104 => .inl (1, 4)
  | 105 => .inl (1, 400)
  | 106 => .inl (1, 400)
  | 107 => .inl (1, 400)
  | 108 => .inl (1, 400)
  | 109 => .inl (0, 600)
  | 110 => .inl (1, 400)
  | 111 => .inl (1, 96)
  | 112 => .inl (1, 24)
  | 113 => .inl (1, 400)
  | 114 => .inl (1, 400)
  | 115 => .inl (1, 400)
  | 116 => .inl (1, 60)
  | 117 => .inl (1, 60)
  | 118 => .inl (1, 620)
  | 119 => .inl (1, 620)
  | 120 => .inl (1, 1860)
  | 121 => .inl (1, 620)
  | 122 => .inl (1, 400)
  | 123 => .inl (1, 200)
  | 124 => .inl (1, 200)
  | 125 => .inl (1, 60000)
  | _ => .inr 0
def RF : List (Nat × Nat × Nat) := [(0, 0, 1), (0, 2, 2), (0, 3, 10), (0, 4, 14), (0, 5, 24), (0, 6, 37), (0, 7, 40), (0, 8, 53), (0, 9, 66), (0, 10, 67), (0, 11, 74), (0, 12, 80), (0, 13, 87), (0, 14, 88), (2, 0, 3), (2, 1, 4), (2, 2, 5), (2, 3, 6), (2, 4, 7), (2, 5, 8), (2, 6, 9), (10, 0, 11), (10, 1, 12), (10, 2, 13), (14, 0, 2), (14, 1, 1), (14, 2, 15), (14, 3, 16), (14, 4, 20), (14, 5, 21), (14, 7, 22), (14, 9, 23), (16, 0, 17), (16, 1, 18), (16, 2, 19), (24, 0, 25), (24, 1, 28), (24, 2, 31), (24, 3, 34), (25, 0, 26), (25, 1, 27), (28, 0, 29), (28, 1, 30), (31, 0, 32), (31, 1, 33), (34, 0, 35), (34, 1, 36), (37, 0, 38), (37, 1, 39), (40, 0, 2), (40, 1, 10), (40, 3, 41), (40, 4, 42), (40, 5, 43), (40, 6, 44), (40, 7, 45), (40, 8, 46), (40, 9, 47), (40, 10, 48), (40, 11, 49), (50, 0, 51), (50, 1, 52), (53, 0, 40), (54, 0, 55), (54, 1, 56), (57, 0, 58), (57, 1, 59), (60, 0, 61), (60, 1, 62), (63, 0, 64), (63, 1, 65), (66, 0, 2), (66, 1, 10), (67, 0, 10), (67, 1, 68), (67, 2, 69), (67, 3, 70), (67, 4, 71), (67, 5, 72), (67, 6, 73), (74, 0, 2), (74, 1, 75), (74, 2, 76), (74, 3, 77), (74, 4, 78), (74, 5, 79), (80, 0, 74), (80, 1, 81), (80, 2, 82), (80, 3, 83), (80, 4, 84), (80, 5, 85), (89, 1, 90), (89, 2, 91), (89, 3, 92), (89, 4, 93), (89, 5, 94), (89, 6, 95), (89, 9, 96), (89, 10, 97), (89, 11, 98), (89, 12, 99), (89, 13, 100), (89, 14, 101), (89, 17, 102), (89, 18, 103), (89, 19, 104), (89, 20, 105), (89, 21, 106), (89, 22, 107), (89, 23, 108), (89, 26, 109), (89, 36, 110), (89, 37, 111), (89, 38, 112), (89, 40, 113), (89, 41, 114), (89, 42, 115), (89, 44, 116), (89, 45, 117), (89, 51, 118), (89, 52, 119), (89, 53, 120), (89, 54, 121), (89, 55, 122), (89, 57, 123), (89, 58, 124), (89, 60, 125)]
def Wd (M : Mem) : Prop := M.1 = 126 ∧ (∀ a, a < 126 → M.2.1 a = S0 a) ∧ ∀ q ∈ RF, M.2.2.2.2 q.1 q.2.1 = some q.2.2
section WD
variable {M : Mem}
theorem l_0 (h : Wd M) : 0 < M.1 := by rw [h.1]; decide
theorem s_0 (h : Wd M) : M.2.1 0 = .inr 10 := h.2.1 0 (by decide)
theorem l_1 (h : Wd M) : 1 < M.1 := by rw [h.1]; decide
theorem s_1 (h : Wd M) : M.2.1 1 = .inl (1, 600) := h.2.1 1 (by decide)
theorem l_2 (h : Wd M) : 2 < M.1 := by rw [h.1]; decide
theorem s_2 (h : Wd M) : M.2.1 2 = .inr 1 := h.2.1 2 (by decide)
theorem l_3 (h : Wd M) : 3 < M.1 := by rw [h.1]; decide
theorem s_3 (h : Wd M) : M.2.1 3 = .inl (1, 5200) := h.2.1 3 (by decide)
theorem l_4 (h : Wd M) : 4 < M.1 := by rw [h.1]; decide
theorem s_4 (h : Wd M) : M.2.1 4 = .inl (1, 5200) := h.2.1 4 (by decide)
theorem l_5 (h : Wd M) : 5 < M.1 := by rw [h.1]; decide
theorem s_5 (h : Wd M) : M.2.1 5 = .inl (1, 5200) := h.2.1 5 (by decide)
theorem l_6 (h : Wd M) : 6 < M.1 := by rw [h.1]; decide
theorem s_6 (h : Wd M) : M.2.1 6 = .inl (2, 5200) := h.2.1 6 (by decide)
theorem l_7 (h : Wd M) : 7 < M.1 := by rw [h.1]; decide
theorem s_7 (h : Wd M) : M.2.1 7 = .inl (1, 5200) := h.2.1 7 (by decide)
theorem l_8 (h : Wd M) : 8 < M.1 := by rw [h.1]; decide
theorem s_8 (h : Wd M) : M.2.1 8 = .inl (1, 5200) := h.2.1 8 (by decide)
theorem l_9 (h : Wd M) : 9 < M.1 := by rw [h.1]; decide
theorem s_9 (h : Wd M) : M.2.1 9 = .inl (1, 1024) := h.2.1 9 (by decide)
theorem l_10 (h : Wd M) : 10 < M.1 := by rw [h.1]; decide
theorem s_10 (h : Wd M) : M.2.1 10 = .inr 2 := h.2.1 10 (by decide)
theorem l_11 (h : Wd M) : 11 < M.1 := by rw [h.1]; decide
theorem s_11 (h : Wd M) : M.2.1 11 = .inl (1, 6) := h.2.1 11 (by decide)
theorem l_12 (h : Wd M) : 12 < M.1 := by rw [h.1]; decide
theorem s_12 (h : Wd M) : M.2.1 12 = .inl (1, 6) := h.2.1 12 (by decide)
theorem l_13 (h : Wd M) : 13 < M.1 := by rw [h.1]; decide
theorem s_13 (h : Wd M) : M.2.1 13 = .inl (1, 6) := h.2.1 13 (by decide)
theorem l_14 (h : Wd M) : 14 < M.1 := by rw [h.1]; decide
theorem s_14 (h : Wd M) : M.2.1 14 = .inr 6 := h.2.1 14 (by decide)
theorem l_15 (h : Wd M) : 15 < M.1 := by rw [h.1]; decide
theorem s_15 (h : Wd M) : M.2.1 15 = .inl (2, 22) := h.2.1 15 (by decide)
theorem l_16 (h : Wd M) : 16 < M.1 := by rw [h.1]; decide
theorem s_16 (h : Wd M) : M.2.1 16 = .inr 2 := h.2.1 16 (by decide)
theorem l_17 (h : Wd M) : 17 < M.1 := by rw [h.1]; decide
theorem s_17 (h : Wd M) : M.2.1 17 = .inl (1, 6) := h.2.1 17 (by decide)
theorem l_18 (h : Wd M) : 18 < M.1 := by rw [h.1]; decide
theorem s_18 (h : Wd M) : M.2.1 18 = .inl (1, 6) := h.2.1 18 (by decide)
theorem l_19 (h : Wd M) : 19 < M.1 := by rw [h.1]; decide
theorem s_19 (h : Wd M) : M.2.1 19 = .inl (1, 6) := h.2.1 19 (by decide)
theorem l_20 (h : Wd M) : 20 < M.1 := by rw [h.1]; decide
theorem s_20 (h : Wd M) : M.2.1 20 = .inl (1, 30) := h.2.1 20 (by decide)
theorem l_21 (h : Wd M) : 21 < M.1 := by rw [h.1]; decide
theorem s_21 (h : Wd M) : M.2.1 21 = .inl (1, 854) := h.2.1 21 (by decide)
theorem l_22 (h : Wd M) : 22 < M.1 := by rw [h.1]; decide
theorem s_22 (h : Wd M) : M.2.1 22 = .inl (1, 24) := h.2.1 22 (by decide)
theorem l_23 (h : Wd M) : 23 < M.1 := by rw [h.1]; decide
theorem s_23 (h : Wd M) : M.2.1 23 = .inl (1, 120) := h.2.1 23 (by decide)
theorem l_24 (h : Wd M) : 24 < M.1 := by rw [h.1]; decide
theorem s_24 (h : Wd M) : M.2.1 24 = .inl (4, 4) := h.2.1 24 (by decide)
theorem l_25 (h : Wd M) : 25 < M.1 := by rw [h.1]; decide
theorem s_25 (h : Wd M) : M.2.1 25 = .inr 9 := h.2.1 25 (by decide)
theorem l_26 (h : Wd M) : 26 < M.1 := by rw [h.1]; decide
theorem s_26 (h : Wd M) : M.2.1 26 = .inl (1, 200) := h.2.1 26 (by decide)
theorem l_27 (h : Wd M) : 27 < M.1 := by rw [h.1]; decide
theorem s_27 (h : Wd M) : M.2.1 27 = .inl (1, 200) := h.2.1 27 (by decide)
theorem l_28 (h : Wd M) : 28 < M.1 := by rw [h.1]; decide
theorem s_28 (h : Wd M) : M.2.1 28 = .inr 9 := h.2.1 28 (by decide)
theorem l_29 (h : Wd M) : 29 < M.1 := by rw [h.1]; decide
theorem s_29 (h : Wd M) : M.2.1 29 = .inl (1, 200) := h.2.1 29 (by decide)
theorem l_30 (h : Wd M) : 30 < M.1 := by rw [h.1]; decide
theorem s_30 (h : Wd M) : M.2.1 30 = .inl (1, 200) := h.2.1 30 (by decide)
theorem l_31 (h : Wd M) : 31 < M.1 := by rw [h.1]; decide
theorem s_31 (h : Wd M) : M.2.1 31 = .inr 9 := h.2.1 31 (by decide)
theorem l_32 (h : Wd M) : 32 < M.1 := by rw [h.1]; decide
theorem s_32 (h : Wd M) : M.2.1 32 = .inl (1, 200) := h.2.1 32 (by decide)
theorem l_33 (h : Wd M) : 33 < M.1 := by rw [h.1]; decide
theorem s_33 (h : Wd M) : M.2.1 33 = .inl (1, 200) := h.2.1 33 (by decide)
theorem l_34 (h : Wd M) : 34 < M.1 := by rw [h.1]; decide
theorem s_34 (h : Wd M) : M.2.1 34 = .inr 9 := h.2.1 34 (by decide)
theorem l_35 (h : Wd M) : 35 < M.1 := by rw [h.1]; decide
theorem s_35 (h : Wd M) : M.2.1 35 = .inl (1, 200) := h.2.1 35 (by decide)
theorem l_36 (h : Wd M) : 36 < M.1 := by rw [h.1]; decide
theorem s_36 (h : Wd M) : M.2.1 36 = .inl (1, 200) := h.2.1 36 (by decide)
theorem l_37 (h : Wd M) : 37 < M.1 := by rw [h.1]; decide
theorem s_37 (h : Wd M) : M.2.1 37 = .inr 9 := h.2.1 37 (by decide)
theorem l_38 (h : Wd M) : 38 < M.1 := by rw [h.1]; decide
theorem s_38 (h : Wd M) : M.2.1 38 = .inl (1, 200) := h.2.1 38 (by decide)
theorem l_39 (h : Wd M) : 39 < M.1 := by rw [h.1]; decide
theorem s_39 (h : Wd M) : M.2.1 39 = .inl (1, 200) := h.2.1 39 (by decide)
theorem l_40 (h : Wd M) : 40 < M.1 := by rw [h.1]; decide
theorem s_40 (h : Wd M) : M.2.1 40 = .inr 3 := h.2.1 40 (by decide)
theorem l_41 (h : Wd M) : 41 < M.1 := by rw [h.1]; decide
theorem s_41 (h : Wd M) : M.2.1 41 = .inl (1, 200) := h.2.1 41 (by decide)
theorem l_42 (h : Wd M) : 42 < M.1 := by rw [h.1]; decide
theorem s_42 (h : Wd M) : M.2.1 42 = .inl (1, 200) := h.2.1 42 (by decide)
theorem l_43 (h : Wd M) : 43 < M.1 := by rw [h.1]; decide
theorem s_43 (h : Wd M) : M.2.1 43 = .inl (1, 200) := h.2.1 43 (by decide)
theorem l_44 (h : Wd M) : 44 < M.1 := by rw [h.1]; decide
theorem s_44 (h : Wd M) : M.2.1 44 = .inl (1, 200) := h.2.1 44 (by decide)
theorem l_45 (h : Wd M) : 45 < M.1 := by rw [h.1]; decide
theorem s_45 (h : Wd M) : M.2.1 45 = .inl (1, 200) := h.2.1 45 (by decide)
theorem l_46 (h : Wd M) : 46 < M.1 := by rw [h.1]; decide
theorem s_46 (h : Wd M) : M.2.1 46 = .inl (1, 200) := h.2.1 46 (by decide)
theorem l_47 (h : Wd M) : 47 < M.1 := by rw [h.1]; decide
theorem s_47 (h : Wd M) : M.2.1 47 = .inl (1, 200) := h.2.1 47 (by decide)
theorem l_48 (h : Wd M) : 48 < M.1 := by rw [h.1]; decide
theorem s_48 (h : Wd M) : M.2.1 48 = .inl (1, 200) := h.2.1 48 (by decide)
theorem l_49 (h : Wd M) : 49 < M.1 := by rw [h.1]; decide
theorem s_49 (h : Wd M) : M.2.1 49 = .inl (1, 400) := h.2.1 49 (by decide)
theorem l_50 (h : Wd M) : 50 < M.1 := by rw [h.1]; decide
theorem s_50 (h : Wd M) : M.2.1 50 = .inr 9 := h.2.1 50 (by decide)
theorem l_51 (h : Wd M) : 51 < M.1 := by rw [h.1]; decide
theorem s_51 (h : Wd M) : M.2.1 51 = .inl (1, 200) := h.2.1 51 (by decide)
theorem l_52 (h : Wd M) : 52 < M.1 := by rw [h.1]; decide
theorem s_52 (h : Wd M) : M.2.1 52 = .inl (1, 200) := h.2.1 52 (by decide)
theorem l_53 (h : Wd M) : 53 < M.1 := by rw [h.1]; decide
theorem s_53 (h : Wd M) : M.2.1 53 = .inr 7 := h.2.1 53 (by decide)
theorem l_54 (h : Wd M) : 54 < M.1 := by rw [h.1]; decide
theorem s_54 (h : Wd M) : M.2.1 54 = .inr 9 := h.2.1 54 (by decide)
theorem l_55 (h : Wd M) : 55 < M.1 := by rw [h.1]; decide
theorem s_55 (h : Wd M) : M.2.1 55 = .inl (1, 200) := h.2.1 55 (by decide)
theorem l_56 (h : Wd M) : 56 < M.1 := by rw [h.1]; decide
theorem s_56 (h : Wd M) : M.2.1 56 = .inl (1, 200) := h.2.1 56 (by decide)
theorem l_57 (h : Wd M) : 57 < M.1 := by rw [h.1]; decide
theorem s_57 (h : Wd M) : M.2.1 57 = .inr 9 := h.2.1 57 (by decide)
theorem l_58 (h : Wd M) : 58 < M.1 := by rw [h.1]; decide
theorem s_58 (h : Wd M) : M.2.1 58 = .inl (1, 200) := h.2.1 58 (by decide)
theorem l_59 (h : Wd M) : 59 < M.1 := by rw [h.1]; decide
theorem s_59 (h : Wd M) : M.2.1 59 = .inl (1, 200) := h.2.1 59 (by decide)
theorem l_60 (h : Wd M) : 60 < M.1 := by rw [h.1]; decide
theorem s_60 (h : Wd M) : M.2.1 60 = .inr 9 := h.2.1 60 (by decide)
theorem l_61 (h : Wd M) : 61 < M.1 := by rw [h.1]; decide
theorem s_61 (h : Wd M) : M.2.1 61 = .inl (1, 200) := h.2.1 61 (by decide)
theorem l_62 (h : Wd M) : 62 < M.1 := by rw [h.1]; decide
theorem s_62 (h : Wd M) : M.2.1 62 = .inl (1, 200) := h.2.1 62 (by decide)
theorem l_63 (h : Wd M) : 63 < M.1 := by rw [h.1]; decide
theorem s_63 (h : Wd M) : M.2.1 63 = .inr 9 := h.2.1 63 (by decide)
theorem l_64 (h : Wd M) : 64 < M.1 := by rw [h.1]; decide
theorem s_64 (h : Wd M) : M.2.1 64 = .inl (1, 200) := h.2.1 64 (by decide)
theorem l_65 (h : Wd M) : 65 < M.1 := by rw [h.1]; decide
theorem s_65 (h : Wd M) : M.2.1 65 = .inl (1, 200) := h.2.1 65 (by decide)
theorem l_66 (h : Wd M) : 66 < M.1 := by rw [h.1]; decide
theorem s_66 (h : Wd M) : M.2.1 66 = .inr 8 := h.2.1 66 (by decide)
theorem l_67 (h : Wd M) : 67 < M.1 := by rw [h.1]; decide
theorem s_67 (h : Wd M) : M.2.1 67 = .inr 4 := h.2.1 67 (by decide)
theorem l_68 (h : Wd M) : 68 < M.1 := by rw [h.1]; decide
theorem s_68 (h : Wd M) : M.2.1 68 = .inl (1, 406) := h.2.1 68 (by decide)
theorem l_69 (h : Wd M) : 69 < M.1 := by rw [h.1]; decide
theorem s_69 (h : Wd M) : M.2.1 69 = .inl (1, 406) := h.2.1 69 (by decide)
theorem l_70 (h : Wd M) : 70 < M.1 := by rw [h.1]; decide
theorem s_70 (h : Wd M) : M.2.1 70 = .inl (1, 406) := h.2.1 70 (by decide)
theorem l_71 (h : Wd M) : 71 < M.1 := by rw [h.1]; decide
theorem s_71 (h : Wd M) : M.2.1 71 = .inl (1, 1218) := h.2.1 71 (by decide)
theorem l_72 (h : Wd M) : 72 < M.1 := by rw [h.1]; decide
theorem s_72 (h : Wd M) : M.2.1 72 = .inl (1, 200) := h.2.1 72 (by decide)
theorem l_73 (h : Wd M) : 73 < M.1 := by rw [h.1]; decide
theorem s_73 (h : Wd M) : M.2.1 73 = .inl (1, 200) := h.2.1 73 (by decide)
theorem l_74 (h : Wd M) : 74 < M.1 := by rw [h.1]; decide
theorem s_74 (h : Wd M) : M.2.1 74 = .inr 5 := h.2.1 74 (by decide)
theorem l_75 (h : Wd M) : 75 < M.1 := by rw [h.1]; decide
theorem s_75 (h : Wd M) : M.2.1 75 = .inl (1, 5200) := h.2.1 75 (by decide)
theorem l_76 (h : Wd M) : 76 < M.1 := by rw [h.1]; decide
theorem s_76 (h : Wd M) : M.2.1 76 = .inl (1, 420) := h.2.1 76 (by decide)
theorem l_77 (h : Wd M) : 77 < M.1 := by rw [h.1]; decide
theorem s_77 (h : Wd M) : M.2.1 77 = .inl (1, 420) := h.2.1 77 (by decide)
theorem l_78 (h : Wd M) : 78 < M.1 := by rw [h.1]; decide
theorem s_78 (h : Wd M) : M.2.1 78 = .inl (1, 420) := h.2.1 78 (by decide)
theorem l_79 (h : Wd M) : 79 < M.1 := by rw [h.1]; decide
theorem s_79 (h : Wd M) : M.2.1 79 = .inl (2, 420) := h.2.1 79 (by decide)
theorem l_80 (h : Wd M) : 80 < M.1 := by rw [h.1]; decide
theorem s_80 (h : Wd M) : M.2.1 80 = .inr 0 := h.2.1 80 (by decide)
theorem l_81 (h : Wd M) : 81 < M.1 := by rw [h.1]; decide
theorem s_81 (h : Wd M) : M.2.1 81 = .inl (1, 40) := h.2.1 81 (by decide)
theorem l_82 (h : Wd M) : 82 < M.1 := by rw [h.1]; decide
theorem s_82 (h : Wd M) : M.2.1 82 = .inl (2, 40) := h.2.1 82 (by decide)
theorem l_83 (h : Wd M) : 83 < M.1 := by rw [h.1]; decide
theorem s_83 (h : Wd M) : M.2.1 83 = .inl (2, 40) := h.2.1 83 (by decide)
theorem l_84 (h : Wd M) : 84 < M.1 := by rw [h.1]; decide
theorem s_84 (h : Wd M) : M.2.1 84 = .inl (2, 8192) := h.2.1 84 (by decide)
theorem l_85 (h : Wd M) : 85 < M.1 := by rw [h.1]; decide
theorem s_85 (h : Wd M) : M.2.1 85 = .inl (2, 8192) := h.2.1 85 (by decide)
theorem l_86 (h : Wd M) : 86 < M.1 := by rw [h.1]; decide
theorem s_86 (h : Wd M) : M.2.1 86 = .inr 99 := h.2.1 86 (by decide)
theorem l_87 (h : Wd M) : 87 < M.1 := by rw [h.1]; decide
theorem s_87 (h : Wd M) : M.2.1 87 = .inl (1, 60) := h.2.1 87 (by decide)
theorem l_88 (h : Wd M) : 88 < M.1 := by rw [h.1]; decide
theorem s_88 (h : Wd M) : M.2.1 88 = .inl (1, 60) := h.2.1 88 (by decide)
theorem l_89 (h : Wd M) : 89 < M.1 := by rw [h.1]; decide
theorem s_89 (h : Wd M) : M.2.1 89 = .inr 11 := h.2.1 89 (by decide)
theorem l_90 (h : Wd M) : 90 < M.1 := by rw [h.1]; decide
theorem s_90 (h : Wd M) : M.2.1 90 = .inl (1, 16384) := h.2.1 90 (by decide)
theorem l_91 (h : Wd M) : 91 < M.1 := by rw [h.1]; decide
theorem s_91 (h : Wd M) : M.2.1 91 = .inl (1, 16384) := h.2.1 91 (by decide)
theorem l_92 (h : Wd M) : 92 < M.1 := by rw [h.1]; decide
theorem s_92 (h : Wd M) : M.2.1 92 = .inl (1, 16384) := h.2.1 92 (by decide)
theorem l_93 (h : Wd M) : 93 < M.1 := by rw [h.1]; decide
theorem s_93 (h : Wd M) : M.2.1 93 = .inl (1, 16384) := h.2.1 93 (by decide)
theorem l_94 (h : Wd M) : 94 < M.1 := by rw [h.1]; decide
theorem s_94 (h : Wd M) : M.2.1 94 = .inl (1, 1024) := h.2.1 94 (by decide)
theorem l_95 (h : Wd M) : 95 < M.1 := by rw [h.1]; decide
theorem s_95 (h : Wd M) : M.2.1 95 = .inl (1, 16384) := h.2.1 95 (by decide)
theorem l_96 (h : Wd M) : 96 < M.1 := by rw [h.1]; decide
theorem s_96 (h : Wd M) : M.2.1 96 = .inl (1, 24) := h.2.1 96 (by decide)
theorem l_97 (h : Wd M) : 97 < M.1 := by rw [h.1]; decide
theorem s_97 (h : Wd M) : M.2.1 97 = .inl (1, 6) := h.2.1 97 (by decide)
theorem l_98 (h : Wd M) : 98 < M.1 := by rw [h.1]; decide
theorem s_98 (h : Wd M) : M.2.1 98 = .inl (1, 6) := h.2.1 98 (by decide)
theorem l_99 (h : Wd M) : 99 < M.1 := by rw [h.1]; decide
theorem s_99 (h : Wd M) : M.2.1 99 = .inl (1, 24) := h.2.1 99 (by decide)
theorem l_100 (h : Wd M) : 100 < M.1 := by rw [h.1]; decide
theorem s_100 (h : Wd M) : M.2.1 100 = .inl (1, 6) := h.2.1 100 (by decide)
theorem l_101 (h : Wd M) : 101 < M.1 := by rw [h.1]; decide
theorem s_101 (h : Wd M) : M.2.1 101 = .inl (1, 6) := h.2.1 101 (by decide)
theorem l_102 (h : Wd M) : 102 < M.1 := by rw [h.1]; decide
theorem s_102 (h : Wd M) : M.2.1 102 = .inl (1, 800) := h.2.1 102 (by decide)
theorem l_103 (h : Wd M) : 103 < M.1 := by rw [h.1]; decide
theorem s_103 (h : Wd M) : M.2.1 103 = .inl (1, 800) := h.2.1 103 (by decide)
theorem l_104 (h : Wd M) : 104 < M.1 := by rw [h.1]; decide
theorem s_104 (h : Wd M) : M.2.1 104 = .inl (1, 4) := h.2.1 104 (by decide)
theorem l_105 (h : Wd M) : 105 < M.1 := by rw [h.1]; decide
theorem s_105 (h : Wd M) : M.2.1 105 = .inl (1, 400) := h.2.1 105 (by decide)
theorem l_106 (h : Wd M) : 106 < M.1 := by rw [h.1]; decide
theorem s_106 (h : Wd M) : M.2.1 106 = .inl (1, 400) := h.2.1 106 (by decide)
theorem l_107 (h : Wd M) : 107 < M.1 := by rw [h.1]; decide
theorem s_107 (h : Wd M) : M.2.1 107 = .inl (1, 400) := h.2.1 107 (by decide)
theorem l_108 (h : Wd M) : 108 < M.1 := by rw [h.1]; decide
theorem s_108 (h : Wd M) : M.2.1 108 = .inl (1, 400) := h.2.1 108 (by decide)
theorem l_109 (h : Wd M) : 109 < M.1 := by rw [h.1]; decide
theorem s_109 (h : Wd M) : M.2.1 109 = .inl (0, 600) := h.2.1 109 (by decide)
theorem l_110 (h : Wd M) : 110 < M.1 := by rw [h.1]; decide
theorem s_110 (h : Wd M) : M.2.1 110 = .inl (1, 400) := h.2.1 110 (by decide)
theorem l_111 (h : Wd M) : 111 < M.1 := by rw [h.1]; decide
theorem s_111 (h : Wd M) : M.2.1 111 = .inl (1, 96) := h.2.1 111 (by decide)
theorem l_112 (h : Wd M) : 112 < M.1 := by rw [h.1]; decide
theorem s_112 (h : Wd M) : M.2.1 112 = .inl (1, 24) := h.2.1 112 (by decide)
theorem l_113 (h : Wd M) : 113 < M.1 := by rw [h.1]; decide
theorem s_113 (h : Wd M) : M.2.1 113 = .inl (1, 400) := h.2.1 113 (by decide)
theorem l_114 (h : Wd M) : 114 < M.1 := by rw [h.1]; decide
theorem s_114 (h : Wd M) : M.2.1 114 = .inl (1, 400) := h.2.1 114 (by decide)
theorem l_115 (h : Wd M) : 115 < M.1 := by rw [h.1]; decide
theorem s_115 (h : Wd M) : M.2.1 115 = .inl (1, 400) := h.2.1 115 (by decide)
theorem l_116 (h : Wd M) : 116 < M.1 := by rw [h.1]; decide
theorem s_116 (h : Wd M) : M.2.1 116 = .inl (1, 60) := h.2.1 116 (by decide)
theorem l_117 (h : Wd M) : 117 < M.1 := by rw [h.1]; decide
theorem s_117 (h : Wd M) : M.2.1 117 = .inl (1, 60) := h.2.1 117 (by decide)
theorem l_118 (h : Wd M) : 118 < M.1 := by rw [h.1]; decide
theorem s_118 (h : Wd M) : M.2.1 118 = .inl (1, 620) := h.2.1 118 (by decide)
theorem l_119 (h : Wd M) : 119 < M.1 := by rw [h.1]; decide
theorem s_119 (h : Wd M) : M.2.1 119 = .inl (1, 620) := h.2.1 119 (by decide)
theorem l_120 (h : Wd M) : 120 < M.1 := by rw [h.1]; decide
theorem s_120 (h : Wd M) : M.2.1 120 = .inl (1, 1860) := h.2.1 120 (by decide)
theorem l_121 (h : Wd M) : 121 < M.1 := by rw [h.1]; decide
theorem s_121 (h : Wd M) : M.2.1 121 = .inl (1, 620) := h.2.1 121 (by decide)
theorem l_122 (h : Wd M) : 122 < M.1 := by rw [h.1]; decide
theorem s_122 (h : Wd M) : M.2.1 122 = .inl (1, 400) := h.2.1 122 (by decide)
theorem l_123 (h : Wd M) : 123 < M.1 := by rw [h.1]; decide
theorem s_123 (h : Wd M) : M.2.1 123 = .inl (1, 200) := h.2.1 123 (by decide)
theorem l_124 (h : Wd M) : 124 < M.1 := by rw [h.1]; decide
theorem s_124 (h : Wd M) : M.2.1 124 = .inl (1, 200) := h.2.1 124 (by decide)
theorem l_125 (h : Wd M) : 125 < M.1 := by rw [h.1]; decide
theorem s_125 (h : Wd M) : M.2.1 125 = .inl (1, 60000) := h.2.1 125 (by decide)
theorem r_0_0 (h : Wd M) : M.2.2.2.2 0 0 = some 1 := h.2.2 (0, 0, 1) (List.mem_of_getElem? (i := 0) rfl)
theorem g_0_0 (h : Wd M) : gv M 10 0 0 = .ref 1 := by
  show va_rf (M.2.2.2.2 0 0) = _
  rw [r_0_0 h]
  rfl
theorem r_0_2 (h : Wd M) : M.2.2.2.2 0 2 = some 2 := h.2.2 (0, 2, 2) (List.mem_of_getElem? (i := 1) rfl)
theorem g_0_2 (h : Wd M) : gv M 10 0 2 = .ref 2 := by
  show va_rf (M.2.2.2.2 0 2) = _
  rw [r_0_2 h]
  rfl
theorem r_0_3 (h : Wd M) : M.2.2.2.2 0 3 = some 10 := h.2.2 (0, 3, 10) (List.mem_of_getElem? (i := 2) rfl)
theorem g_0_3 (h : Wd M) : gv M 10 0 3 = .ref 10 := by
  show va_rf (M.2.2.2.2 0 3) = _
  rw [r_0_3 h]
  rfl
theorem r_0_4 (h : Wd M) : M.2.2.2.2 0 4 = some 14 := h.2.2 (0, 4, 14) (List.mem_of_getElem? (i := 3) rfl)
theorem g_0_4 (h : Wd M) : gv M 10 0 4 = .ref 14 := by
  show va_rf (M.2.2.2.2 0 4) = _
  rw [r_0_4 h]
  rfl
theorem r_0_5 (h : Wd M) : M.2.2.2.2 0 5 = some 24 := h.2.2 (0, 5, 24) (List.mem_of_getElem? (i := 4) rfl)
theorem g_0_5 (h : Wd M) : gv M 10 0 5 = .ref 24 := by
  show va_rf (M.2.2.2.2 0 5) = _
  rw [r_0_5 h]
  rfl
theorem r_0_6 (h : Wd M) : M.2.2.2.2 0 6 = some 37 := h.2.2 (0, 6, 37) (List.mem_of_getElem? (i := 5) rfl)
theorem g_0_6 (h : Wd M) : gv M 10 0 6 = .ref 37 := by
  show va_rf (M.2.2.2.2 0 6) = _
  rw [r_0_6 h]
  rfl
theorem r_0_7 (h : Wd M) : M.2.2.2.2 0 7 = some 40 := h.2.2 (0, 7, 40) (List.mem_of_getElem? (i := 6) rfl)
theorem g_0_7 (h : Wd M) : gv M 10 0 7 = .ref 40 := by
  show va_rf (M.2.2.2.2 0 7) = _
  rw [r_0_7 h]
  rfl
theorem r_0_8 (h : Wd M) : M.2.2.2.2 0 8 = some 53 := h.2.2 (0, 8, 53) (List.mem_of_getElem? (i := 7) rfl)
theorem g_0_8 (h : Wd M) : gv M 10 0 8 = .ref 53 := by
  show va_rf (M.2.2.2.2 0 8) = _
  rw [r_0_8 h]
  rfl
theorem r_0_9 (h : Wd M) : M.2.2.2.2 0 9 = some 66 := h.2.2 (0, 9, 66) (List.mem_of_getElem? (i := 8) rfl)
theorem g_0_9 (h : Wd M) : gv M 10 0 9 = .ref 66 := by
  show va_rf (M.2.2.2.2 0 9) = _
  rw [r_0_9 h]
  rfl
theorem r_0_10 (h : Wd M) : M.2.2.2.2 0 10 = some 67 := h.2.2 (0, 10, 67) (List.mem_of_getElem? (i := 9) rfl)
theorem g_0_10 (h : Wd M) : gv M 10 0 10 = .ref 67 := by
  show va_rf (M.2.2.2.2 0 10) = _
  rw [r_0_10 h]
  rfl
theorem r_0_11 (h : Wd M) : M.2.2.2.2 0 11 = some 74 := h.2.2 (0, 11, 74) (List.mem_of_getElem? (i := 10) rfl)
theorem g_0_11 (h : Wd M) : gv M 10 0 11 = .ref 74 := by
  show va_rf (M.2.2.2.2 0 11) = _
  rw [r_0_11 h]
  rfl
theorem r_0_12 (h : Wd M) : M.2.2.2.2 0 12 = some 80 := h.2.2 (0, 12, 80) (List.mem_of_getElem? (i := 11) rfl)
theorem g_0_12 (h : Wd M) : gv M 10 0 12 = .ref 80 := by
  show va_rf (M.2.2.2.2 0 12) = _
  rw [r_0_12 h]
  rfl
theorem r_0_13 (h : Wd M) : M.2.2.2.2 0 13 = some 87 := h.2.2 (0, 13, 87) (List.mem_of_getElem? (i := 12) rfl)
theorem g_0_13 (h : Wd M) : gv M 10 0 13 = .ref 87 := by
  show va_rf (M.2.2.2.2 0 13) = _
  rw [r_0_13 h]
  rfl
theorem r_0_14 (h : Wd M) : M.2.2.2.2 0 14 = some 88 := h.2.2 (0, 14, 88) (List.mem_of_getElem? (i := 13) rfl)
theorem g_0_14 (h : Wd M) : gv M 10 0 14 = .ref 88 := by
  show va_rf (M.2.2.2.2 0 14) = _
  rw [r_0_14 h]
  rfl
theorem r_2_0 (h : Wd M) : M.2.2.2.2 2 0 = some 3 := h.2.2 (2, 0, 3) (List.mem_of_getElem? (i := 14) rfl)
theorem g_2_0 (h : Wd M) : gv M 1 2 0 = .ref 3 := by
  show va_rf (M.2.2.2.2 2 0) = _
  rw [r_2_0 h]
  rfl
theorem r_2_1 (h : Wd M) : M.2.2.2.2 2 1 = some 4 := h.2.2 (2, 1, 4) (List.mem_of_getElem? (i := 15) rfl)
theorem g_2_1 (h : Wd M) : gv M 1 2 1 = .ref 4 := by
  show va_rf (M.2.2.2.2 2 1) = _
  rw [r_2_1 h]
  rfl
theorem r_2_2 (h : Wd M) : M.2.2.2.2 2 2 = some 5 := h.2.2 (2, 2, 5) (List.mem_of_getElem? (i := 16) rfl)
theorem g_2_2 (h : Wd M) : gv M 1 2 2 = .ref 5 := by
  show va_rf (M.2.2.2.2 2 2) = _
  rw [r_2_2 h]
  rfl
theorem r_2_3 (h : Wd M) : M.2.2.2.2 2 3 = some 6 := h.2.2 (2, 3, 6) (List.mem_of_getElem? (i := 17) rfl)
theorem g_2_3 (h : Wd M) : gv M 1 2 3 = .ref 6 := by
  show va_rf (M.2.2.2.2 2 3) = _
  rw [r_2_3 h]
  rfl
theorem r_2_4 (h : Wd M) : M.2.2.2.2 2 4 = some 7 := h.2.2 (2, 4, 7) (List.mem_of_getElem? (i := 18) rfl)
theorem g_2_4 (h : Wd M) : gv M 1 2 4 = .ref 7 := by
  show va_rf (M.2.2.2.2 2 4) = _
  rw [r_2_4 h]
  rfl
theorem r_2_5 (h : Wd M) : M.2.2.2.2 2 5 = some 8 := h.2.2 (2, 5, 8) (List.mem_of_getElem? (i := 19) rfl)
theorem g_2_5 (h : Wd M) : gv M 1 2 5 = .ref 8 := by
  show va_rf (M.2.2.2.2 2 5) = _
  rw [r_2_5 h]
  rfl
theorem r_2_6 (h : Wd M) : M.2.2.2.2 2 6 = some 9 := h.2.2 (2, 6, 9) (List.mem_of_getElem? (i := 20) rfl)
theorem g_2_6 (h : Wd M) : gv M 1 2 6 = .ref 9 := by
  show va_rf (M.2.2.2.2 2 6) = _
  rw [r_2_6 h]
  rfl
theorem r_10_0 (h : Wd M) : M.2.2.2.2 10 0 = some 11 := h.2.2 (10, 0, 11) (List.mem_of_getElem? (i := 21) rfl)
theorem g_10_0 (h : Wd M) : gv M 2 10 0 = .ref 11 := by
  show va_rf (M.2.2.2.2 10 0) = _
  rw [r_10_0 h]
  rfl
theorem r_10_1 (h : Wd M) : M.2.2.2.2 10 1 = some 12 := h.2.2 (10, 1, 12) (List.mem_of_getElem? (i := 22) rfl)
theorem g_10_1 (h : Wd M) : gv M 2 10 1 = .ref 12 := by
  show va_rf (M.2.2.2.2 10 1) = _
  rw [r_10_1 h]
  rfl
theorem r_10_2 (h : Wd M) : M.2.2.2.2 10 2 = some 13 := h.2.2 (10, 2, 13) (List.mem_of_getElem? (i := 23) rfl)
theorem g_10_2 (h : Wd M) : gv M 2 10 2 = .ref 13 := by
  show va_rf (M.2.2.2.2 10 2) = _
  rw [r_10_2 h]
  rfl
theorem r_14_0 (h : Wd M) : M.2.2.2.2 14 0 = some 2 := h.2.2 (14, 0, 2) (List.mem_of_getElem? (i := 24) rfl)
theorem g_14_0 (h : Wd M) : gv M 6 14 0 = .ref 2 := by
  show va_rf (M.2.2.2.2 14 0) = _
  rw [r_14_0 h]
  rfl
theorem r_14_1 (h : Wd M) : M.2.2.2.2 14 1 = some 1 := h.2.2 (14, 1, 1) (List.mem_of_getElem? (i := 25) rfl)
theorem g_14_1 (h : Wd M) : gv M 6 14 1 = .ref 1 := by
  show va_rf (M.2.2.2.2 14 1) = _
  rw [r_14_1 h]
  rfl
theorem r_14_2 (h : Wd M) : M.2.2.2.2 14 2 = some 15 := h.2.2 (14, 2, 15) (List.mem_of_getElem? (i := 26) rfl)
theorem g_14_2 (h : Wd M) : gv M 6 14 2 = .ref 15 := by
  show va_rf (M.2.2.2.2 14 2) = _
  rw [r_14_2 h]
  rfl
theorem r_14_3 (h : Wd M) : M.2.2.2.2 14 3 = some 16 := h.2.2 (14, 3, 16) (List.mem_of_getElem? (i := 27) rfl)
theorem g_14_3 (h : Wd M) : gv M 6 14 3 = .ref 16 := by
  show va_rf (M.2.2.2.2 14 3) = _
  rw [r_14_3 h]
  rfl
theorem r_14_4 (h : Wd M) : M.2.2.2.2 14 4 = some 20 := h.2.2 (14, 4, 20) (List.mem_of_getElem? (i := 28) rfl)
theorem g_14_4 (h : Wd M) : gv M 6 14 4 = .ref 20 := by
  show va_rf (M.2.2.2.2 14 4) = _
  rw [r_14_4 h]
  rfl
theorem r_14_5 (h : Wd M) : M.2.2.2.2 14 5 = some 21 := h.2.2 (14, 5, 21) (List.mem_of_getElem? (i := 29) rfl)
theorem g_14_5 (h : Wd M) : gv M 6 14 5 = .ref 21 := by
  show va_rf (M.2.2.2.2 14 5) = _
  rw [r_14_5 h]
  rfl
theorem r_14_7 (h : Wd M) : M.2.2.2.2 14 7 = some 22 := h.2.2 (14, 7, 22) (List.mem_of_getElem? (i := 30) rfl)
theorem g_14_7 (h : Wd M) : gv M 6 14 7 = .ref 22 := by
  show va_rf (M.2.2.2.2 14 7) = _
  rw [r_14_7 h]
  rfl
theorem r_14_9 (h : Wd M) : M.2.2.2.2 14 9 = some 23 := h.2.2 (14, 9, 23) (List.mem_of_getElem? (i := 31) rfl)
theorem g_14_9 (h : Wd M) : gv M 6 14 9 = .ref 23 := by
  show va_rf (M.2.2.2.2 14 9) = _
  rw [r_14_9 h]
  rfl
theorem r_16_0 (h : Wd M) : M.2.2.2.2 16 0 = some 17 := h.2.2 (16, 0, 17) (List.mem_of_getElem? (i := 32) rfl)
theorem g_16_0 (h : Wd M) : gv M 2 16 0 = .ref 17 := by
  show va_rf (M.2.2.2.2 16 0) = _
  rw [r_16_0 h]
  rfl
theorem r_16_1 (h : Wd M) : M.2.2.2.2 16 1 = some 18 := h.2.2 (16, 1, 18) (List.mem_of_getElem? (i := 33) rfl)
theorem g_16_1 (h : Wd M) : gv M 2 16 1 = .ref 18 := by
  show va_rf (M.2.2.2.2 16 1) = _
  rw [r_16_1 h]
  rfl
theorem r_16_2 (h : Wd M) : M.2.2.2.2 16 2 = some 19 := h.2.2 (16, 2, 19) (List.mem_of_getElem? (i := 34) rfl)
theorem g_16_2 (h : Wd M) : gv M 2 16 2 = .ref 19 := by
  show va_rf (M.2.2.2.2 16 2) = _
  rw [r_16_2 h]
  rfl
theorem r_24_0 (h : Wd M) : M.2.2.2.2 24 0 = some 25 := h.2.2 (24, 0, 25) (List.mem_of_getElem? (i := 35) rfl)
theorem r_24_1 (h : Wd M) : M.2.2.2.2 24 1 = some 28 := h.2.2 (24, 1, 28) (List.mem_of_getElem? (i := 36) rfl)
theorem r_24_2 (h : Wd M) : M.2.2.2.2 24 2 = some 31 := h.2.2 (24, 2, 31) (List.mem_of_getElem? (i := 37) rfl)
theorem r_24_3 (h : Wd M) : M.2.2.2.2 24 3 = some 34 := h.2.2 (24, 3, 34) (List.mem_of_getElem? (i := 38) rfl)
theorem r_25_0 (h : Wd M) : M.2.2.2.2 25 0 = some 26 := h.2.2 (25, 0, 26) (List.mem_of_getElem? (i := 39) rfl)
theorem g_25_0 (h : Wd M) : gv M 9 25 0 = .ref 26 := by
  show va_rf (M.2.2.2.2 25 0) = _
  rw [r_25_0 h]
  rfl
theorem r_25_1 (h : Wd M) : M.2.2.2.2 25 1 = some 27 := h.2.2 (25, 1, 27) (List.mem_of_getElem? (i := 40) rfl)
theorem g_25_1 (h : Wd M) : gv M 9 25 1 = .ref 27 := by
  show va_rf (M.2.2.2.2 25 1) = _
  rw [r_25_1 h]
  rfl
theorem r_28_0 (h : Wd M) : M.2.2.2.2 28 0 = some 29 := h.2.2 (28, 0, 29) (List.mem_of_getElem? (i := 41) rfl)
theorem g_28_0 (h : Wd M) : gv M 9 28 0 = .ref 29 := by
  show va_rf (M.2.2.2.2 28 0) = _
  rw [r_28_0 h]
  rfl
theorem r_28_1 (h : Wd M) : M.2.2.2.2 28 1 = some 30 := h.2.2 (28, 1, 30) (List.mem_of_getElem? (i := 42) rfl)
theorem g_28_1 (h : Wd M) : gv M 9 28 1 = .ref 30 := by
  show va_rf (M.2.2.2.2 28 1) = _
  rw [r_28_1 h]
  rfl
theorem r_31_0 (h : Wd M) : M.2.2.2.2 31 0 = some 32 := h.2.2 (31, 0, 32) (List.mem_of_getElem? (i := 43) rfl)
theorem g_31_0 (h : Wd M) : gv M 9 31 0 = .ref 32 := by
  show va_rf (M.2.2.2.2 31 0) = _
  rw [r_31_0 h]
  rfl
theorem r_31_1 (h : Wd M) : M.2.2.2.2 31 1 = some 33 := h.2.2 (31, 1, 33) (List.mem_of_getElem? (i := 44) rfl)
theorem g_31_1 (h : Wd M) : gv M 9 31 1 = .ref 33 := by
  show va_rf (M.2.2.2.2 31 1) = _
  rw [r_31_1 h]
  rfl
theorem r_34_0 (h : Wd M) : M.2.2.2.2 34 0 = some 35 := h.2.2 (34, 0, 35) (List.mem_of_getElem? (i := 45) rfl)
theorem g_34_0 (h : Wd M) : gv M 9 34 0 = .ref 35 := by
  show va_rf (M.2.2.2.2 34 0) = _
  rw [r_34_0 h]
  rfl
theorem r_34_1 (h : Wd M) : M.2.2.2.2 34 1 = some 36 := h.2.2 (34, 1, 36) (List.mem_of_getElem? (i := 46) rfl)
theorem g_34_1 (h : Wd M) : gv M 9 34 1 = .ref 36 := by
  show va_rf (M.2.2.2.2 34 1) = _
  rw [r_34_1 h]
  rfl
theorem r_37_0 (h : Wd M) : M.2.2.2.2 37 0 = some 38 := h.2.2 (37, 0, 38) (List.mem_of_getElem? (i := 47) rfl)
theorem g_37_0 (h : Wd M) : gv M 9 37 0 = .ref 38 := by
  show va_rf (M.2.2.2.2 37 0) = _
  rw [r_37_0 h]
  rfl
theorem r_37_1 (h : Wd M) : M.2.2.2.2 37 1 = some 39 := h.2.2 (37, 1, 39) (List.mem_of_getElem? (i := 48) rfl)
theorem g_37_1 (h : Wd M) : gv M 9 37 1 = .ref 39 := by
  show va_rf (M.2.2.2.2 37 1) = _
  rw [r_37_1 h]
  rfl
theorem r_40_0 (h : Wd M) : M.2.2.2.2 40 0 = some 2 := h.2.2 (40, 0, 2) (List.mem_of_getElem? (i := 49) rfl)
theorem g_40_0 (h : Wd M) : gv M 3 40 0 = .ref 2 := by
  show va_rf (M.2.2.2.2 40 0) = _
  rw [r_40_0 h]
  rfl
theorem r_40_1 (h : Wd M) : M.2.2.2.2 40 1 = some 10 := h.2.2 (40, 1, 10) (List.mem_of_getElem? (i := 50) rfl)
theorem g_40_1 (h : Wd M) : gv M 3 40 1 = .ref 10 := by
  show va_rf (M.2.2.2.2 40 1) = _
  rw [r_40_1 h]
  rfl
theorem r_40_3 (h : Wd M) : M.2.2.2.2 40 3 = some 41 := h.2.2 (40, 3, 41) (List.mem_of_getElem? (i := 51) rfl)
theorem g_40_3 (h : Wd M) : gv M 3 40 3 = .ref 41 := by
  show va_rf (M.2.2.2.2 40 3) = _
  rw [r_40_3 h]
  rfl
theorem r_40_4 (h : Wd M) : M.2.2.2.2 40 4 = some 42 := h.2.2 (40, 4, 42) (List.mem_of_getElem? (i := 52) rfl)
theorem g_40_4 (h : Wd M) : gv M 3 40 4 = .ref 42 := by
  show va_rf (M.2.2.2.2 40 4) = _
  rw [r_40_4 h]
  rfl
theorem r_40_5 (h : Wd M) : M.2.2.2.2 40 5 = some 43 := h.2.2 (40, 5, 43) (List.mem_of_getElem? (i := 53) rfl)
theorem g_40_5 (h : Wd M) : gv M 3 40 5 = .ref 43 := by
  show va_rf (M.2.2.2.2 40 5) = _
  rw [r_40_5 h]
  rfl
theorem r_40_6 (h : Wd M) : M.2.2.2.2 40 6 = some 44 := h.2.2 (40, 6, 44) (List.mem_of_getElem? (i := 54) rfl)
theorem g_40_6 (h : Wd M) : gv M 3 40 6 = .ref 44 := by
  show va_rf (M.2.2.2.2 40 6) = _
  rw [r_40_6 h]
  rfl
theorem r_40_7 (h : Wd M) : M.2.2.2.2 40 7 = some 45 := h.2.2 (40, 7, 45) (List.mem_of_getElem? (i := 55) rfl)
theorem g_40_7 (h : Wd M) : gv M 3 40 7 = .ref 45 := by
  show va_rf (M.2.2.2.2 40 7) = _
  rw [r_40_7 h]
  rfl
theorem r_40_8 (h : Wd M) : M.2.2.2.2 40 8 = some 46 := h.2.2 (40, 8, 46) (List.mem_of_getElem? (i := 56) rfl)
theorem g_40_8 (h : Wd M) : gv M 3 40 8 = .ref 46 := by
  show va_rf (M.2.2.2.2 40 8) = _
  rw [r_40_8 h]
  rfl
theorem r_40_9 (h : Wd M) : M.2.2.2.2 40 9 = some 47 := h.2.2 (40, 9, 47) (List.mem_of_getElem? (i := 57) rfl)
theorem g_40_9 (h : Wd M) : gv M 3 40 9 = .ref 47 := by
  show va_rf (M.2.2.2.2 40 9) = _
  rw [r_40_9 h]
  rfl
theorem r_40_10 (h : Wd M) : M.2.2.2.2 40 10 = some 48 := h.2.2 (40, 10, 48) (List.mem_of_getElem? (i := 58) rfl)
theorem g_40_10 (h : Wd M) : gv M 3 40 10 = .ref 48 := by
  show va_rf (M.2.2.2.2 40 10) = _
  rw [r_40_10 h]
  rfl
theorem r_40_11 (h : Wd M) : M.2.2.2.2 40 11 = some 49 := h.2.2 (40, 11, 49) (List.mem_of_getElem? (i := 59) rfl)
theorem g_40_11 (h : Wd M) : gv M 3 40 11 = .ref 49 := by
  show va_rf (M.2.2.2.2 40 11) = _
  rw [r_40_11 h]
  rfl
theorem r_50_0 (h : Wd M) : M.2.2.2.2 50 0 = some 51 := h.2.2 (50, 0, 51) (List.mem_of_getElem? (i := 60) rfl)
theorem g_50_0 (h : Wd M) : gv M 9 50 0 = .ref 51 := by
  show va_rf (M.2.2.2.2 50 0) = _
  rw [r_50_0 h]
  rfl
theorem r_50_1 (h : Wd M) : M.2.2.2.2 50 1 = some 52 := h.2.2 (50, 1, 52) (List.mem_of_getElem? (i := 61) rfl)
theorem g_50_1 (h : Wd M) : gv M 9 50 1 = .ref 52 := by
  show va_rf (M.2.2.2.2 50 1) = _
  rw [r_50_1 h]
  rfl
theorem r_53_0 (h : Wd M) : M.2.2.2.2 53 0 = some 40 := h.2.2 (53, 0, 40) (List.mem_of_getElem? (i := 62) rfl)
theorem g_53_0 (h : Wd M) : gv M 7 53 0 = .ref 40 := by
  show va_rf (M.2.2.2.2 53 0) = _
  rw [r_53_0 h]
  rfl
theorem r_54_0 (h : Wd M) : M.2.2.2.2 54 0 = some 55 := h.2.2 (54, 0, 55) (List.mem_of_getElem? (i := 63) rfl)
theorem g_54_0 (h : Wd M) : gv M 9 54 0 = .ref 55 := by
  show va_rf (M.2.2.2.2 54 0) = _
  rw [r_54_0 h]
  rfl
theorem r_54_1 (h : Wd M) : M.2.2.2.2 54 1 = some 56 := h.2.2 (54, 1, 56) (List.mem_of_getElem? (i := 64) rfl)
theorem g_54_1 (h : Wd M) : gv M 9 54 1 = .ref 56 := by
  show va_rf (M.2.2.2.2 54 1) = _
  rw [r_54_1 h]
  rfl
theorem r_57_0 (h : Wd M) : M.2.2.2.2 57 0 = some 58 := h.2.2 (57, 0, 58) (List.mem_of_getElem? (i := 65) rfl)
theorem g_57_0 (h : Wd M) : gv M 9 57 0 = .ref 58 := by
  show va_rf (M.2.2.2.2 57 0) = _
  rw [r_57_0 h]
  rfl
theorem r_57_1 (h : Wd M) : M.2.2.2.2 57 1 = some 59 := h.2.2 (57, 1, 59) (List.mem_of_getElem? (i := 66) rfl)
theorem g_57_1 (h : Wd M) : gv M 9 57 1 = .ref 59 := by
  show va_rf (M.2.2.2.2 57 1) = _
  rw [r_57_1 h]
  rfl
theorem r_60_0 (h : Wd M) : M.2.2.2.2 60 0 = some 61 := h.2.2 (60, 0, 61) (List.mem_of_getElem? (i := 67) rfl)
theorem g_60_0 (h : Wd M) : gv M 9 60 0 = .ref 61 := by
  show va_rf (M.2.2.2.2 60 0) = _
  rw [r_60_0 h]
  rfl
theorem r_60_1 (h : Wd M) : M.2.2.2.2 60 1 = some 62 := h.2.2 (60, 1, 62) (List.mem_of_getElem? (i := 68) rfl)
theorem g_60_1 (h : Wd M) : gv M 9 60 1 = .ref 62 := by
  show va_rf (M.2.2.2.2 60 1) = _
  rw [r_60_1 h]
  rfl
theorem r_63_0 (h : Wd M) : M.2.2.2.2 63 0 = some 64 := h.2.2 (63, 0, 64) (List.mem_of_getElem? (i := 69) rfl)
theorem g_63_0 (h : Wd M) : gv M 9 63 0 = .ref 64 := by
  show va_rf (M.2.2.2.2 63 0) = _
  rw [r_63_0 h]
  rfl
theorem r_63_1 (h : Wd M) : M.2.2.2.2 63 1 = some 65 := h.2.2 (63, 1, 65) (List.mem_of_getElem? (i := 70) rfl)
theorem g_63_1 (h : Wd M) : gv M 9 63 1 = .ref 65 := by
  show va_rf (M.2.2.2.2 63 1) = _
  rw [r_63_1 h]
  rfl
theorem r_66_0 (h : Wd M) : M.2.2.2.2 66 0 = some 2 := h.2.2 (66, 0, 2) (List.mem_of_getElem? (i := 71) rfl)
theorem g_66_0 (h : Wd M) : gv M 8 66 0 = .ref 2 := by
  show va_rf (M.2.2.2.2 66 0) = _
  rw [r_66_0 h]
  rfl
theorem r_66_1 (h : Wd M) : M.2.2.2.2 66 1 = some 10 := h.2.2 (66, 1, 10) (List.mem_of_getElem? (i := 72) rfl)
theorem g_66_1 (h : Wd M) : gv M 8 66 1 = .ref 10 := by
  show va_rf (M.2.2.2.2 66 1) = _
  rw [r_66_1 h]
  rfl
theorem r_67_0 (h : Wd M) : M.2.2.2.2 67 0 = some 10 := h.2.2 (67, 0, 10) (List.mem_of_getElem? (i := 73) rfl)
theorem g_67_0 (h : Wd M) : gv M 4 67 0 = .ref 10 := by
  show va_rf (M.2.2.2.2 67 0) = _
  rw [r_67_0 h]
  rfl
theorem r_67_1 (h : Wd M) : M.2.2.2.2 67 1 = some 68 := h.2.2 (67, 1, 68) (List.mem_of_getElem? (i := 74) rfl)
theorem g_67_1 (h : Wd M) : gv M 4 67 1 = .ref 68 := by
  show va_rf (M.2.2.2.2 67 1) = _
  rw [r_67_1 h]
  rfl
theorem r_67_2 (h : Wd M) : M.2.2.2.2 67 2 = some 69 := h.2.2 (67, 2, 69) (List.mem_of_getElem? (i := 75) rfl)
theorem g_67_2 (h : Wd M) : gv M 4 67 2 = .ref 69 := by
  show va_rf (M.2.2.2.2 67 2) = _
  rw [r_67_2 h]
  rfl
theorem r_67_3 (h : Wd M) : M.2.2.2.2 67 3 = some 70 := h.2.2 (67, 3, 70) (List.mem_of_getElem? (i := 76) rfl)
theorem g_67_3 (h : Wd M) : gv M 4 67 3 = .ref 70 := by
  show va_rf (M.2.2.2.2 67 3) = _
  rw [r_67_3 h]
  rfl
theorem r_67_4 (h : Wd M) : M.2.2.2.2 67 4 = some 71 := h.2.2 (67, 4, 71) (List.mem_of_getElem? (i := 77) rfl)
theorem g_67_4 (h : Wd M) : gv M 4 67 4 = .ref 71 := by
  show va_rf (M.2.2.2.2 67 4) = _
  rw [r_67_4 h]
  rfl
theorem r_67_5 (h : Wd M) : M.2.2.2.2 67 5 = some 72 := h.2.2 (67, 5, 72) (List.mem_of_getElem? (i := 78) rfl)
theorem g_67_5 (h : Wd M) : gv M 4 67 5 = .ref 72 := by
  show va_rf (M.2.2.2.2 67 5) = _
  rw [r_67_5 h]
  rfl
theorem r_67_6 (h : Wd M) : M.2.2.2.2 67 6 = some 73 := h.2.2 (67, 6, 73) (List.mem_of_getElem? (i := 79) rfl)
theorem g_67_6 (h : Wd M) : gv M 4 67 6 = .ref 73 := by
  show va_rf (M.2.2.2.2 67 6) = _
  rw [r_67_6 h]
  rfl
theorem r_74_0 (h : Wd M) : M.2.2.2.2 74 0 = some 2 := h.2.2 (74, 0, 2) (List.mem_of_getElem? (i := 80) rfl)
theorem g_74_0 (h : Wd M) : gv M 5 74 0 = .ref 2 := by
  show va_rf (M.2.2.2.2 74 0) = _
  rw [r_74_0 h]
  rfl
theorem r_74_1 (h : Wd M) : M.2.2.2.2 74 1 = some 75 := h.2.2 (74, 1, 75) (List.mem_of_getElem? (i := 81) rfl)
theorem g_74_1 (h : Wd M) : gv M 5 74 1 = .ref 75 := by
  show va_rf (M.2.2.2.2 74 1) = _
  rw [r_74_1 h]
  rfl
theorem r_74_2 (h : Wd M) : M.2.2.2.2 74 2 = some 76 := h.2.2 (74, 2, 76) (List.mem_of_getElem? (i := 82) rfl)
theorem g_74_2 (h : Wd M) : gv M 5 74 2 = .ref 76 := by
  show va_rf (M.2.2.2.2 74 2) = _
  rw [r_74_2 h]
  rfl
theorem r_74_3 (h : Wd M) : M.2.2.2.2 74 3 = some 77 := h.2.2 (74, 3, 77) (List.mem_of_getElem? (i := 83) rfl)
theorem g_74_3 (h : Wd M) : gv M 5 74 3 = .ref 77 := by
  show va_rf (M.2.2.2.2 74 3) = _
  rw [r_74_3 h]
  rfl
theorem r_74_4 (h : Wd M) : M.2.2.2.2 74 4 = some 78 := h.2.2 (74, 4, 78) (List.mem_of_getElem? (i := 84) rfl)
theorem g_74_4 (h : Wd M) : gv M 5 74 4 = .ref 78 := by
  show va_rf (M.2.2.2.2 74 4) = _
  rw [r_74_4 h]
  rfl
theorem r_74_5 (h : Wd M) : M.2.2.2.2 74 5 = some 79 := h.2.2 (74, 5, 79) (List.mem_of_getElem? (i := 85) rfl)
theorem g_74_5 (h : Wd M) : gv M 5 74 5 = .ref 79 := by
  show va_rf (M.2.2.2.2 74 5) = _
  rw [r_74_5 h]
  rfl
theorem r_80_0 (h : Wd M) : M.2.2.2.2 80 0 = some 74 := h.2.2 (80, 0, 74) (List.mem_of_getElem? (i := 86) rfl)
theorem g_80_0 (h : Wd M) : gv M 0 80 0 = .ref 74 := by
  show va_rf (M.2.2.2.2 80 0) = _
  rw [r_80_0 h]
  rfl
theorem r_80_1 (h : Wd M) : M.2.2.2.2 80 1 = some 81 := h.2.2 (80, 1, 81) (List.mem_of_getElem? (i := 87) rfl)
theorem g_80_1 (h : Wd M) : gv M 0 80 1 = .ref 81 := by
  show va_rf (M.2.2.2.2 80 1) = _
  rw [r_80_1 h]
  rfl
theorem r_80_2 (h : Wd M) : M.2.2.2.2 80 2 = some 82 := h.2.2 (80, 2, 82) (List.mem_of_getElem? (i := 88) rfl)
theorem g_80_2 (h : Wd M) : gv M 0 80 2 = .ref 82 := by
  show va_rf (M.2.2.2.2 80 2) = _
  rw [r_80_2 h]
  rfl
theorem r_80_3 (h : Wd M) : M.2.2.2.2 80 3 = some 83 := h.2.2 (80, 3, 83) (List.mem_of_getElem? (i := 89) rfl)
theorem g_80_3 (h : Wd M) : gv M 0 80 3 = .ref 83 := by
  show va_rf (M.2.2.2.2 80 3) = _
  rw [r_80_3 h]
  rfl
theorem r_80_4 (h : Wd M) : M.2.2.2.2 80 4 = some 84 := h.2.2 (80, 4, 84) (List.mem_of_getElem? (i := 90) rfl)
theorem g_80_4 (h : Wd M) : gv M 0 80 4 = .ref 84 := by
  show va_rf (M.2.2.2.2 80 4) = _
  rw [r_80_4 h]
  rfl
theorem r_80_5 (h : Wd M) : M.2.2.2.2 80 5 = some 85 := h.2.2 (80, 5, 85) (List.mem_of_getElem? (i := 91) rfl)
theorem g_80_5 (h : Wd M) : gv M 0 80 5 = .ref 85 := by
  show va_rf (M.2.2.2.2 80 5) = _
  rw [r_80_5 h]
  rfl
theorem r_89_1 (h : Wd M) : M.2.2.2.2 89 1 = some 90 := h.2.2 (89, 1, 90) (List.mem_of_getElem? (i := 92) rfl)
theorem g_89_1 (h : Wd M) : gv M 11 89 1 = .ref 90 := by
  show va_rf (M.2.2.2.2 89 1) = _
  rw [r_89_1 h]
  rfl
theorem r_89_2 (h : Wd M) : M.2.2.2.2 89 2 = some 91 := h.2.2 (89, 2, 91) (List.mem_of_getElem? (i := 93) rfl)
theorem g_89_2 (h : Wd M) : gv M 11 89 2 = .ref 91 := by
  show va_rf (M.2.2.2.2 89 2) = _
  rw [r_89_2 h]
  rfl
theorem r_89_3 (h : Wd M) : M.2.2.2.2 89 3 = some 92 := h.2.2 (89, 3, 92) (List.mem_of_getElem? (i := 94) rfl)
theorem g_89_3 (h : Wd M) : gv M 11 89 3 = .ref 92 := by
  show va_rf (M.2.2.2.2 89 3) = _
  rw [r_89_3 h]
  rfl
theorem r_89_4 (h : Wd M) : M.2.2.2.2 89 4 = some 93 := h.2.2 (89, 4, 93) (List.mem_of_getElem? (i := 95) rfl)
theorem g_89_4 (h : Wd M) : gv M 11 89 4 = .ref 93 := by
  show va_rf (M.2.2.2.2 89 4) = _
  rw [r_89_4 h]
  rfl
theorem r_89_5 (h : Wd M) : M.2.2.2.2 89 5 = some 94 := h.2.2 (89, 5, 94) (List.mem_of_getElem? (i := 96) rfl)
theorem g_89_5 (h : Wd M) : gv M 11 89 5 = .ref 94 := by
  show va_rf (M.2.2.2.2 89 5) = _
  rw [r_89_5 h]
  rfl
theorem r_89_6 (h : Wd M) : M.2.2.2.2 89 6 = some 95 := h.2.2 (89, 6, 95) (List.mem_of_getElem? (i := 97) rfl)
theorem g_89_6 (h : Wd M) : gv M 11 89 6 = .ref 95 := by
  show va_rf (M.2.2.2.2 89 6) = _
  rw [r_89_6 h]
  rfl
theorem r_89_9 (h : Wd M) : M.2.2.2.2 89 9 = some 96 := h.2.2 (89, 9, 96) (List.mem_of_getElem? (i := 98) rfl)
theorem g_89_9 (h : Wd M) : gv M 11 89 9 = .ref 96 := by
  show va_rf (M.2.2.2.2 89 9) = _
  rw [r_89_9 h]
  rfl
theorem r_89_10 (h : Wd M) : M.2.2.2.2 89 10 = some 97 := h.2.2 (89, 10, 97) (List.mem_of_getElem? (i := 99) rfl)
theorem g_89_10 (h : Wd M) : gv M 11 89 10 = .ref 97 := by
  show va_rf (M.2.2.2.2 89 10) = _
  rw [r_89_10 h]
  rfl
theorem r_89_11 (h : Wd M) : M.2.2.2.2 89 11 = some 98 := h.2.2 (89, 11, 98) (List.mem_of_getElem? (i := 100) rfl)
theorem g_89_11 (h : Wd M) : gv M 11 89 11 = .ref 98 := by
  show va_rf (M.2.2.2.2 89 11) = _
  rw [r_89_11 h]
  rfl
theorem r_89_12 (h : Wd M) : M.2.2.2.2 89 12 = some 99 := h.2.2 (89, 12, 99) (List.mem_of_getElem? (i := 101) rfl)
theorem g_89_12 (h : Wd M) : gv M 11 89 12 = .ref 99 := by
  show va_rf (M.2.2.2.2 89 12) = _
  rw [r_89_12 h]
  rfl
theorem r_89_13 (h : Wd M) : M.2.2.2.2 89 13 = some 100 := h.2.2 (89, 13, 100) (List.mem_of_getElem? (i := 102) rfl)
theorem g_89_13 (h : Wd M) : gv M 11 89 13 = .ref 100 := by
  show va_rf (M.2.2.2.2 89 13) = _
  rw [r_89_13 h]
  rfl
theorem r_89_14 (h : Wd M) : M.2.2.2.2 89 14 = some 101 := h.2.2 (89, 14, 101) (List.mem_of_getElem? (i := 103) rfl)
theorem g_89_14 (h : Wd M) : gv M 11 89 14 = .ref 101 := by
  show va_rf (M.2.2.2.2 89 14) = _
  rw [r_89_14 h]
  rfl
theorem r_89_17 (h : Wd M) : M.2.2.2.2 89 17 = some 102 := h.2.2 (89, 17, 102) (List.mem_of_getElem? (i := 104) rfl)
theorem g_89_17 (h : Wd M) : gv M 11 89 17 = .ref 102 := by
  show va_rf (M.2.2.2.2 89 17) = _
  rw [r_89_17 h]
  rfl
theorem r_89_18 (h : Wd M) : M.2.2.2.2 89 18 = some 103 := h.2.2 (89, 18, 103) (List.mem_of_getElem? (i := 105) rfl)
theorem g_89_18 (h : Wd M) : gv M 11 89 18 = .ref 103 := by
  show va_rf (M.2.2.2.2 89 18) = _
  rw [r_89_18 h]
  rfl
theorem r_89_19 (h : Wd M) : M.2.2.2.2 89 19 = some 104 := h.2.2 (89, 19, 104) (List.mem_of_getElem? (i := 106) rfl)
theorem g_89_19 (h : Wd M) : gv M 11 89 19 = .ref 104 := by
  show va_rf (M.2.2.2.2 89 19) = _
  rw [r_89_19 h]
  rfl
theorem r_89_20 (h : Wd M) : M.2.2.2.2 89 20 = some 105 := h.2.2 (89, 20, 105) (List.mem_of_getElem? (i := 107) rfl)
theorem g_89_20 (h : Wd M) : gv M 11 89 20 = .ref 105 := by
  show va_rf (M.2.2.2.2 89 20) = _
  rw [r_89_20 h]
  rfl
theorem r_89_21 (h : Wd M) : M.2.2.2.2 89 21 = some 106 := h.2.2 (89, 21, 106) (List.mem_of_getElem? (i := 108) rfl)
theorem g_89_21 (h : Wd M) : gv M 11 89 21 = .ref 106 := by
  show va_rf (M.2.2.2.2 89 21) = _
  rw [r_89_21 h]
  rfl
theorem r_89_22 (h : Wd M) : M.2.2.2.2 89 22 = some 107 := h.2.2 (89, 22, 107) (List.mem_of_getElem? (i := 109) rfl)
theorem g_89_22 (h : Wd M) : gv M 11 89 22 = .ref 107 := by
  show va_rf (M.2.2.2.2 89 22) = _
  rw [r_89_22 h]
  rfl
theorem r_89_23 (h : Wd M) : M.2.2.2.2 89 23 = some 108 := h.2.2 (89, 23, 108) (List.mem_of_getElem? (i := 110) rfl)
theorem g_89_23 (h : Wd M) : gv M 11 89 23 = .ref 108 := by
  show va_rf (M.2.2.2.2 89 23) = _
  rw [r_89_23 h]
  rfl
theorem r_89_26 (h : Wd M) : M.2.2.2.2 89 26 = some 109 := h.2.2 (89, 26, 109) (List.mem_of_getElem? (i := 111) rfl)
theorem g_89_26 (h : Wd M) : gv M 11 89 26 = .ref 109 := by
  show va_rf (M.2.2.2.2 89 26) = _
  rw [r_89_26 h]
  rfl
theorem r_89_36 (h : Wd M) : M.2.2.2.2 89 36 = some 110 := h.2.2 (89, 36, 110) (List.mem_of_getElem? (i := 112) rfl)
theorem g_89_36 (h : Wd M) : gv M 11 89 36 = .ref 110 := by
  show va_rf (M.2.2.2.2 89 36) = _
  rw [r_89_36 h]
  rfl
theorem r_89_37 (h : Wd M) : M.2.2.2.2 89 37 = some 111 := h.2.2 (89, 37, 111) (List.mem_of_getElem? (i := 113) rfl)
theorem g_89_37 (h : Wd M) : gv M 11 89 37 = .ref 111 := by
  show va_rf (M.2.2.2.2 89 37) = _
  rw [r_89_37 h]
  rfl
theorem r_89_38 (h : Wd M) : M.2.2.2.2 89 38 = some 112 := h.2.2 (89, 38, 112) (List.mem_of_getElem? (i := 114) rfl)
theorem g_89_38 (h : Wd M) : gv M 11 89 38 = .ref 112 := by
  show va_rf (M.2.2.2.2 89 38) = _
  rw [r_89_38 h]
  rfl
theorem r_89_40 (h : Wd M) : M.2.2.2.2 89 40 = some 113 := h.2.2 (89, 40, 113) (List.mem_of_getElem? (i := 115) rfl)
theorem g_89_40 (h : Wd M) : gv M 11 89 40 = .ref 113 := by
  show va_rf (M.2.2.2.2 89 40) = _
  rw [r_89_40 h]
  rfl
theorem r_89_41 (h : Wd M) : M.2.2.2.2 89 41 = some 114 := h.2.2 (89, 41, 114) (List.mem_of_getElem? (i := 116) rfl)
theorem g_89_41 (h : Wd M) : gv M 11 89 41 = .ref 114 := by
  show va_rf (M.2.2.2.2 89 41) = _
  rw [r_89_41 h]
  rfl
theorem r_89_42 (h : Wd M) : M.2.2.2.2 89 42 = some 115 := h.2.2 (89, 42, 115) (List.mem_of_getElem? (i := 117) rfl)
theorem g_89_42 (h : Wd M) : gv M 11 89 42 = .ref 115 := by
  show va_rf (M.2.2.2.2 89 42) = _
  rw [r_89_42 h]
  rfl
theorem r_89_44 (h : Wd M) : M.2.2.2.2 89 44 = some 116 := h.2.2 (89, 44, 116) (List.mem_of_getElem? (i := 118) rfl)
theorem g_89_44 (h : Wd M) : gv M 11 89 44 = .ref 116 := by
  show va_rf (M.2.2.2.2 89 44) = _
  rw [r_89_44 h]
  rfl
theorem r_89_45 (h : Wd M) : M.2.2.2.2 89 45 = some 117 := h.2.2 (89, 45, 117) (List.mem_of_getElem? (i := 119) rfl)
theorem g_89_45 (h : Wd M) : gv M 11 89 45 = .ref 117 := by
  show va_rf (M.2.2.2.2 89 45) = _
  rw [r_89_45 h]
  rfl
theorem r_89_51 (h : Wd M) : M.2.2.2.2 89 51 = some 118 := h.2.2 (89, 51, 118) (List.mem_of_getElem? (i := 120) rfl)
theorem g_89_51 (h : Wd M) : gv M 11 89 51 = .ref 118 := by
  show va_rf (M.2.2.2.2 89 51) = _
  rw [r_89_51 h]
  rfl
theorem r_89_52 (h : Wd M) : M.2.2.2.2 89 52 = some 119 := h.2.2 (89, 52, 119) (List.mem_of_getElem? (i := 121) rfl)
theorem g_89_52 (h : Wd M) : gv M 11 89 52 = .ref 119 := by
  show va_rf (M.2.2.2.2 89 52) = _
  rw [r_89_52 h]
  rfl
theorem r_89_53 (h : Wd M) : M.2.2.2.2 89 53 = some 120 := h.2.2 (89, 53, 120) (List.mem_of_getElem? (i := 122) rfl)
theorem g_89_53 (h : Wd M) : gv M 11 89 53 = .ref 120 := by
  show va_rf (M.2.2.2.2 89 53) = _
  rw [r_89_53 h]
  rfl
theorem r_89_54 (h : Wd M) : M.2.2.2.2 89 54 = some 121 := h.2.2 (89, 54, 121) (List.mem_of_getElem? (i := 123) rfl)
theorem g_89_54 (h : Wd M) : gv M 11 89 54 = .ref 121 := by
  show va_rf (M.2.2.2.2 89 54) = _
  rw [r_89_54 h]
  rfl
theorem r_89_55 (h : Wd M) : M.2.2.2.2 89 55 = some 122 := h.2.2 (89, 55, 122) (List.mem_of_getElem? (i := 124) rfl)
theorem g_89_55 (h : Wd M) : gv M 11 89 55 = .ref 122 := by
  show va_rf (M.2.2.2.2 89 55) = _
  rw [r_89_55 h]
  rfl
theorem r_89_57 (h : Wd M) : M.2.2.2.2 89 57 = some 123 := h.2.2 (89, 57, 123) (List.mem_of_getElem? (i := 125) rfl)
theorem g_89_57 (h : Wd M) : gv M 11 89 57 = .ref 123 := by
  show va_rf (M.2.2.2.2 89 57) = _
  rw [r_89_57 h]
  rfl
theorem r_89_58 (h : Wd M) : M.2.2.2.2 89 58 = some 124 := h.2.2 (89, 58, 124) (List.mem_of_getElem? (i := 126) rfl)
theorem g_89_58 (h : Wd M) : gv M 11 89 58 = .ref 124 := by
  show va_rf (M.2.2.2.2 89 58) = _
  rw [r_89_58 h]
  rfl
theorem r_89_60 (h : Wd M) : M.2.2.2.2 89 60 = some 125 := h.2.2 (89, 60, 125) (List.mem_of_getElem? (i := 127) rfl)
theorem g_89_60 (h : Wd M) : gv M 11 89 60 = .ref 125 := by
  show va_rf (M.2.2.2.2 89 60) = _
  rw [r_89_60 h]
  rfl
end WD
