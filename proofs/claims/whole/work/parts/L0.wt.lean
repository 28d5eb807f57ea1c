/-! THE WEIGHTS, bounded by leaves and nots: written by wip/gen/wtab.py -/
def t7T : List (List (List Nat)) := [[],
  [[0, 0, 1, 1, 1, 1, 1], [1, 1, 3, 1, 3, 4, 4], [3, 2, 4, 1, 4, 6, 6], [4, 4, 6, 1, 6, 10, 10], [6, 5, 7, 1, 7, 12, 12], [7, 7, 9, 1, 9, 16, 16], [9, 8, 10, 1, 10, 18, 18], [10, 10, 12, 1, 12, 22, 22], [12, 11, 13, 1, 13, 24, 24], [13, 13, 15, 1, 15, 28, 28], [15, 14, 16, 1, 16, 30, 30], [16, 16, 18, 1, 18, 34, 34], [18, 17, 19, 1, 19, 36, 36], [19, 19, 21, 1, 21, 40, 40], [21, 20, 22, 1, 22, 42, 42], [22, 22, 24, 1, 24, 46, 46], [24, 23, 25, 1, 25, 48, 48], [25, 25, 27, 1, 27, 52, 52], [27, 26, 28, 1, 28, 54, 54], [28, 28, 30, 1, 30, 58, 58]],
  [[1, 1, 3, 2, 3, 4, 4], [3, 2, 6, 2, 6, 8, 8], [6, 4, 8, 2, 8, 11, 11], [8, 7, 12, 2, 12, 17, 17], [12, 9, 14, 2, 14, 20, 20], [14, 13, 18, 2, 18, 28, 28], [18, 15, 20, 2, 20, 32, 32], [20, 19, 24, 2, 24, 40, 40], [24, 21, 26, 2, 26, 44, 44], [26, 25, 30, 2, 30, 52, 52], [30, 27, 32, 2, 32, 56, 56], [32, 31, 36, 2, 36, 64, 64], [36, 33, 38, 2, 38, 68, 68], [38, 37, 42, 2, 42, 76, 76], [42, 39, 44, 2, 44, 80, 80], [44, 43, 48, 2, 48, 88, 88], [48, 45, 50, 2, 50, 92, 92], [50, 49, 54, 2, 54, 100, 100], [54, 51, 56, 2, 56, 104, 104]],
  [[3, 2, 6, 3, 6, 8, 8], [6, 4, 10, 3, 10, 13, 13], [10, 7, 13, 3, 13, 18, 18], [13, 11, 19, 3, 19, 27, 27], [19, 14, 22, 3, 22, 32, 32], [22, 20, 30, 3, 30, 44, 44], [30, 23, 34, 3, 34, 50, 50], [34, 31, 42, 3, 42, 64, 64], [42, 35, 46, 3, 46, 72, 72], [46, 43, 54, 3, 54, 88, 88], [54, 47, 58, 3, 58, 96, 96], [58, 55, 66, 3, 66, 112, 112], [66, 59, 70, 3, 70, 120, 120], [70, 67, 78, 3, 78, 136, 136], [78, 71, 82, 3, 82, 144, 144], [82, 79, 90, 3, 90, 160, 160], [90, 83, 94, 3, 94, 168, 168], [94, 91, 102, 3, 102, 184, 184]],
  [[6, 4, 10, 4, 10, 13, 13], [10, 7, 16, 4, 16, 21, 21], [16, 11, 20, 4, 20, 28, 28], [20, 17, 29, 4, 29, 41, 41], [29, 21, 34, 4, 34, 49, 49], [34, 30, 46, 4, 46, 67, 67], [46, 35, 52, 4, 52, 76, 76], [52, 47, 66, 4, 66, 98, 98], [66, 53, 74, 4, 74, 110, 110], [74, 67, 90, 4, 90, 136, 136], [90, 75, 98, 4, 98, 152, 152], [98, 91, 114, 4, 114, 184, 184], [114, 99, 122, 4, 122, 200, 200], [122, 115, 138, 4, 138, 232, 232], [138, 123, 146, 4, 146, 248, 248], [146, 139, 162, 4, 162, 280, 280], [162, 147, 170, 4, 170, 296, 296]],
  [[10, 7, 16, 6, 16, 21, 21], [16, 11, 25, 6, 25, 32, 32], [25, 17, 31, 6, 31, 42, 42], [31, 26, 43, 6, 43, 61, 61], [43, 32, 51, 6, 51, 73, 73], [51, 44, 69, 6, 69, 100, 100], [69, 52, 78, 6, 78, 114, 114], [78, 70, 100, 6, 100, 148, 148], [100, 79, 112, 6, 112, 166, 166], [112, 101, 138, 6, 138, 206, 206], [138, 113, 154, 6, 154, 230, 230], [154, 139, 186, 6, 186, 280, 280], [186, 155, 202, 6, 202, 312, 312], [202, 187, 234, 6, 234, 376, 376], [234, 203, 250, 6, 250, 408, 408], [250, 235, 282, 6, 282, 472, 472]],
  [[16, 11, 25, 9, 25, 32, 32], [25, 17, 37, 9, 37, 47, 47], [37, 26, 46, 9, 46, 62, 62], [46, 38, 64, 9, 64, 90, 90], [64, 47, 75, 9, 75, 108, 108], [75, 65, 102, 9, 102, 147, 147], [102, 76, 116, 9, 116, 169, 169], [116, 103, 150, 9, 150, 221, 221], [150, 117, 168, 9, 168, 248, 248], [168, 151, 208, 9, 208, 310, 310], [208, 169, 232, 9, 232, 346, 346], [232, 209, 282, 9, 282, 422, 422], [282, 233, 314, 9, 314, 470, 470], [314, 283, 378, 9, 378, 568, 568], [378, 315, 410, 9, 410, 632, 632]],
  [[25, 17, 37, 12, 37, 47, 47], [37, 26, 55, 12, 55, 71, 71], [55, 38, 67, 12, 67, 92, 92], [67, 56, 94, 12, 94, 131, 131], [94, 68, 110, 12, 110, 158, 158], [110, 95, 149, 12, 149, 215, 215], [149, 111, 171, 12, 171, 248, 248], [171, 150, 223, 12, 223, 327, 327], [223, 172, 250, 12, 250, 368, 368], [250, 224, 312, 12, 312, 464, 464], [312, 251, 348, 12, 348, 518, 518], [348, 313, 424, 12, 424, 634, 634], [424, 349, 472, 12, 472, 706, 706], [472, 425, 570, 12, 570, 854, 854]],
  [[37, 26, 55, 18, 55, 71, 71], [55, 38, 82, 18, 82, 104, 104], [82, 56, 100, 18, 100, 134, 134], [100, 83, 136, 18, 136, 191, 191], [136, 101, 160, 18, 160, 229, 229], [160, 137, 217, 18, 217, 313, 313], [217, 161, 250, 18, 250, 362, 362], [250, 218, 329, 18, 329, 480, 480], [329, 251, 370, 18, 370, 543, 543], [370, 330, 466, 18, 466, 691, 691], [466, 371, 520, 18, 520, 772, 772], [520, 467, 636, 18, 636, 950, 950], [636, 521, 708, 18, 708, 1058, 1058]],
  [[55, 38, 82, 27, 82, 104, 104], [82, 56, 118, 27, 118, 149, 149], [118, 83, 145, 27, 145, 194, 194], [145, 119, 199, 27, 199, 278, 278], [199, 146, 232, 27, 232, 333, 333], [232, 200, 315, 27, 315, 453, 453], [315, 233, 364, 27, 364, 526, 526], [364, 316, 482, 27, 482, 701, 701], [482, 365, 545, 27, 545, 797, 797], [545, 483, 693, 27, 693, 1024, 1024], [693, 546, 774, 27, 774, 1146, 1146], [774, 694, 952, 27, 952, 1420, 1420]],
  [[82, 56, 118, 36, 118, 149, 149], [118, 83, 172, 36, 172, 221, 221], [172, 119, 208, 36, 208, 284, 284], [208, 173, 289, 36, 289, 401, 401], [289, 209, 337, 36, 337, 482, 482], [337, 290, 455, 36, 455, 656, 656], [455, 338, 528, 36, 528, 762, 762], [528, 456, 703, 36, 703, 1020, 1020], [703, 529, 799, 36, 799, 1165, 1165], [799, 704, 1026, 36, 1026, 1510, 1510], [1026, 800, 1148, 36, 1148, 1695, 1695]],
  [[118, 83, 172, 54, 172, 221, 221], [172, 119, 253, 54, 253, 320, 320], [253, 173, 307, 54, 307, 410, 410], [307, 254, 415, 54, 415, 581, 581], [415, 308, 487, 54, 487, 695, 695], [487, 416, 658, 54, 658, 949, 949], [658, 488, 764, 54, 764, 1103, 1103], [764, 659, 1022, 54, 1022, 1479, 1479], [1022, 765, 1167, 54, 1167, 1697, 1697], [1167, 1023, 1512, 54, 1512, 2217, 2217]],
  [[172, 119, 253, 81, 253, 320, 320], [253, 173, 361, 81, 361, 455, 455], [361, 254, 442, 81, 442, 590, 590], [442, 362, 604, 81, 604, 842, 842], [604, 443, 703, 81, 703, 1007, 1007], [703, 605, 952, 81, 952, 1368, 1368], [952, 704, 1105, 81, 1105, 1594, 1594], [1105, 953, 1481, 81, 1481, 2141, 2141]],
  [[253, 173, 361, 108, 361, 455, 455], [361, 254, 523, 108, 523, 671, 671], [523, 362, 631, 108, 631, 860, 860], [631, 524, 874, 108, 874, 1211, 1211], [874, 632, 1018, 108, 1018, 1454, 1454], [1018, 875, 1372, 108, 1372, 1976, 1976]],
  [[361, 254, 523, 162, 523, 671, 671], [523, 362, 766, 162, 766, 968, 968], [766, 524, 928, 162, 928, 1238, 1238], [928, 767, 1252, 162, 1252, 1751, 1751]],
  [[523, 362, 766, 243, 766, 968, 968], [766, 524, 1090, 243, 1090, 1373, 1373]]]
def t7 (i l v : Nat) : Nat := ((t7T.getD l []).getD v []).getD i 0
def k70 (l1 v1 l2 v2 : Nat) : Bool := if 1 ≤ l1 ∧ 1 ≤ l2 ∧ l1 + l2 + v1 + v2 ≤ 20 then Nat.ble (1 + t7 0 l1 v1 + t7 0 l2 v2) (t7 0 (l1 + l2) (v1 + v2)) && (Nat.ble (1 + t7 1 l1 v1) (t7 1 (l1 + l2) (v1 + v2)) && (Nat.ble (1 + t7 1 l2 v2) (t7 1 (l1 + l2) (v1 + v2)) && (Nat.ble (1 + t7 2 l1 v1 + t7 3 l1 v1 * t7 2 l2 v2) (t7 2 (l1 + l2) (v1 + v2)) && (Nat.ble (t7 3 l1 v1 * t7 3 l2 v2) (t7 3 (l1 + l2) (v1 + v2)) && (Nat.ble (1 + t7 2 l1 v1 + t7 3 l1 v1 * t7 4 l2 v2) (t7 4 (l1 + l2) (v1 + v2)) && (Nat.ble (2 + (t7 5 l1 v1 + t7 3 l1 v1 * t7 2 l2 v2)) (t7 5 (l1 + l2) (v1 + v2)) && (Nat.ble (2 + (t7 2 l1 v1 + t7 3 l1 v1 * t7 5 l2 v2)) (t7 5 (l1 + l2) (v1 + v2)) && (Nat.ble (2 + (t7 5 l1 v1 + t7 3 l1 v1 * t7 4 l2 v2)) (t7 6 (l1 + l2) (v1 + v2)) && (Nat.ble (2 + (t7 2 l1 v1 + t7 3 l1 v1 * t7 6 l2 v2)) (t7 6 (l1 + l2) (v1 + v2))))))))))) else true
set_option maxRecDepth 100000 in
theorem k70_t : ∀ l1, l1 < 16 → ∀ l2, l2 < 16 - l1 → ∀ v1, v1 < 32 - 2 * (l1 + l2) → ∀ v2, v2 < 32 - 2 * (l1 + l2) - v1 → k70 l1 v1 l2 v2 = true := by decide +kernel
theorem t7_b0 : ∀ l1, l1 < 16 → ∀ l2, l2 < 16 - l1 → 1 ≤ l1 → 1 ≤ l2 → ∀ v1, v1 < 32 - 2 * (l1 + l2) → ∀ v2, v2 < 32 - 2 * (l1 + l2) - v1 → l1 + l2 + v1 + v2 ≤ 20 → 1 + t7 0 l1 v1 + t7 0 l2 v2 ≤ t7 0 (l1 + l2) (v1 + v2) ∧ 1 + t7 1 l1 v1 ≤ t7 1 (l1 + l2) (v1 + v2) ∧ 1 + t7 1 l2 v2 ≤ t7 1 (l1 + l2) (v1 + v2) ∧ 1 + t7 2 l1 v1 + t7 3 l1 v1 * t7 2 l2 v2 ≤ t7 2 (l1 + l2) (v1 + v2) ∧ t7 3 l1 v1 * t7 3 l2 v2 ≤ t7 3 (l1 + l2) (v1 + v2) ∧ 1 + t7 2 l1 v1 + t7 3 l1 v1 * t7 4 l2 v2 ≤ t7 4 (l1 + l2) (v1 + v2) ∧ 2 + (t7 5 l1 v1 + t7 3 l1 v1 * t7 2 l2 v2) ≤ t7 5 (l1 + l2) (v1 + v2) ∧ 2 + (t7 2 l1 v1 + t7 3 l1 v1 * t7 5 l2 v2) ≤ t7 5 (l1 + l2) (v1 + v2) ∧ 2 + (t7 5 l1 v1 + t7 3 l1 v1 * t7 4 l2 v2) ≤ t7 6 (l1 + l2) (v1 + v2) ∧ 2 + (t7 2 l1 v1 + t7 3 l1 v1 * t7 6 l2 v2) ≤ t7 6 (l1 + l2) (v1 + v2) := by
  intro l1 h1 l2 h2 p1 p2 v1 h3 v2 h4 h5
  have h := k70_t l1 h1 l2 h2 v1 h3 v2 h4
  unfold k70 at h
  rw [if_pos ⟨p1, p2, h5⟩] at h
  simp only [Bool.and_eq_true, Nat.ble_eq] at h
  exact h
def k71 (l1 v1 l2 v2 : Nat) : Bool := if 1 ≤ l1 ∧ 1 ≤ l2 ∧ l1 + l2 + v1 + v2 ≤ 20 then Nat.ble (1 + t7 2 l1 v1 + t7 2 l2 v2) (t7 2 (l1 + l2) (v1 + v2)) && (Nat.ble (t7 3 l1 v1 + t7 3 l2 v2) (t7 3 (l1 + l2) (v1 + v2)) && (Nat.ble (1 + t7 4 l1 v1 + t7 4 l2 v2) (t7 4 (l1 + l2) (v1 + v2)) && (Nat.ble (2 + (t7 5 l1 v1 + t7 2 l2 v2)) (t7 5 (l1 + l2) (v1 + v2)) && (Nat.ble (2 + (t7 2 l1 v1 + t7 5 l2 v2)) (t7 5 (l1 + l2) (v1 + v2)) && (Nat.ble (2 + (t7 6 l1 v1 + t7 4 l2 v2)) (t7 6 (l1 + l2) (v1 + v2)) && (Nat.ble (2 + (t7 4 l1 v1 + t7 6 l2 v2)) (t7 6 (l1 + l2) (v1 + v2)))))))) else true
set_option maxRecDepth 100000 in
theorem k71_t : ∀ l1, l1 < 16 → ∀ l2, l2 < 16 - l1 → ∀ v1, v1 < 32 - 2 * (l1 + l2) → ∀ v2, v2 < 32 - 2 * (l1 + l2) - v1 → k71 l1 v1 l2 v2 = true := by decide +kernel
theorem t7_b1 : ∀ l1, l1 < 16 → ∀ l2, l2 < 16 - l1 → 1 ≤ l1 → 1 ≤ l2 → ∀ v1, v1 < 32 - 2 * (l1 + l2) → ∀ v2, v2 < 32 - 2 * (l1 + l2) - v1 → l1 + l2 + v1 + v2 ≤ 20 → 1 + t7 2 l1 v1 + t7 2 l2 v2 ≤ t7 2 (l1 + l2) (v1 + v2) ∧ t7 3 l1 v1 + t7 3 l2 v2 ≤ t7 3 (l1 + l2) (v1 + v2) ∧ 1 + t7 4 l1 v1 + t7 4 l2 v2 ≤ t7 4 (l1 + l2) (v1 + v2) ∧ 2 + (t7 5 l1 v1 + t7 2 l2 v2) ≤ t7 5 (l1 + l2) (v1 + v2) ∧ 2 + (t7 2 l1 v1 + t7 5 l2 v2) ≤ t7 5 (l1 + l2) (v1 + v2) ∧ 2 + (t7 6 l1 v1 + t7 4 l2 v2) ≤ t7 6 (l1 + l2) (v1 + v2) ∧ 2 + (t7 4 l1 v1 + t7 6 l2 v2) ≤ t7 6 (l1 + l2) (v1 + v2) := by
  intro l1 h1 l2 h2 p1 p2 v1 h3 v2 h4 h5
  have h := k71_t l1 h1 l2 h2 v1 h3 v2 h4
  unfold k71 at h
  rw [if_pos ⟨p1, p2, h5⟩] at h
  simp only [Bool.and_eq_true, Nat.ble_eq] at h
  exact h
def k72 (l1 v1 l2 v2 : Nat) : Bool := if 1 ≤ l1 ∧ 1 ≤ l2 ∧ l1 + l2 + v1 + v2 ≤ 20 then Nat.ble (t7 2 l1 v1 + t7 3 l1 v1 * t7 0 l2 v2) (t7 0 (l1 + l2) (v1 + v2)) && (Nat.ble (1 + t7 0 l1 v1 + t7 1 l2 v2) (t7 1 (l1 + l2) (v1 + v2)) && (Nat.ble (2 + t7 0 l1 v1 + t7 5 l2 v2) (t7 2 (l1 + l2) (v1 + v2)) && (Nat.ble (t7 3 l2 v2) (t7 3 (l1 + l2) (v1 + v2)) && (Nat.ble (2 + t7 0 l1 v1 + t7 6 l2 v2) (t7 4 (l1 + l2) (v1 + v2)) && (Nat.ble (3 + 2 * t7 0 l1 v1 + t7 1 l2 v2 + t7 5 l2 v2) (t7 5 (l1 + l2) (v1 + v2)) && (Nat.ble (3 + 2 * t7 0 l1 v1 + t7 1 l2 v2 + t7 6 l2 v2) (t7 6 (l1 + l2) (v1 + v2)))))))) else true
set_option maxRecDepth 100000 in
theorem k72_t : ∀ l1, l1 < 16 → ∀ l2, l2 < 16 - l1 → ∀ v1, v1 < 32 - 2 * (l1 + l2) → ∀ v2, v2 < 32 - 2 * (l1 + l2) - v1 → k72 l1 v1 l2 v2 = true := by decide +kernel
theorem t7_b2 : ∀ l1, l1 < 16 → ∀ l2, l2 < 16 - l1 → 1 ≤ l1 → 1 ≤ l2 → ∀ v1, v1 < 32 - 2 * (l1 + l2) → ∀ v2, v2 < 32 - 2 * (l1 + l2) - v1 → l1 + l2 + v1 + v2 ≤ 20 → t7 2 l1 v1 + t7 3 l1 v1 * t7 0 l2 v2 ≤ t7 0 (l1 + l2) (v1 + v2) ∧ 1 + t7 0 l1 v1 + t7 1 l2 v2 ≤ t7 1 (l1 + l2) (v1 + v2) ∧ 2 + t7 0 l1 v1 + t7 5 l2 v2 ≤ t7 2 (l1 + l2) (v1 + v2) ∧ t7 3 l2 v2 ≤ t7 3 (l1 + l2) (v1 + v2) ∧ 2 + t7 0 l1 v1 + t7 6 l2 v2 ≤ t7 4 (l1 + l2) (v1 + v2) ∧ 3 + 2 * t7 0 l1 v1 + t7 1 l2 v2 + t7 5 l2 v2 ≤ t7 5 (l1 + l2) (v1 + v2) ∧ 3 + 2 * t7 0 l1 v1 + t7 1 l2 v2 + t7 6 l2 v2 ≤ t7 6 (l1 + l2) (v1 + v2) := by
  intro l1 h1 l2 h2 p1 p2 v1 h3 v2 h4 h5
  have h := k72_t l1 h1 l2 h2 v1 h3 v2 h4
  unfold k72 at h
  rw [if_pos ⟨p1, p2, h5⟩] at h
  simp only [Bool.and_eq_true, Nat.ble_eq] at h
  exact h
set_option maxRecDepth 100000 in
theorem t7_na : ∀ l, l < 16 → 1 ≤ l → ∀ v, v < 31 - 2 * l → l + v + 1 ≤ 20 → t7 4 l v ≤ t7 0 l (v + 1) ∧ 1 + t7 0 l v ≤ t7 1 l (v + 1) ∧ 3 + t7 0 l v ≤ t7 2 l (v + 1) := by decide +kernel
set_option maxRecDepth 100000 in
theorem t7_nb : ∀ l, l < 16 → 1 ≤ l → ∀ v, v < 31 - 2 * l → l + v + 1 ≤ 20 → 1 ≤ t7 3 l (v + 1) ∧ 3 + t7 0 l v ≤ t7 4 l (v + 1) := by decide +kernel
set_option maxRecDepth 100000 in
theorem t7_nc : ∀ l, l < 16 → 1 ≤ l → ∀ v, v < 31 - 2 * l → l + v + 1 ≤ 20 → 4 + 2 * t7 0 l v ≤ t7 5 l (v + 1) ∧ 4 + 2 * t7 0 l v ≤ t7 6 l (v + 1) := by decide +kernel
set_option maxRecDepth 100000 in
theorem t7_top : ∀ l, l < 16 → 1 ≤ l → ∀ v, v < 32 - 2 * l → l + v ≤ 20 → t7 0 l v ≤ 5 * (2 * (l + v) - 1) + 1170 * ((2 * (l + v) - 1) / 21) ∧ t7 1 l v ≤ 5 * (2 * (l + v) - 1) + 1170 * ((2 * (l + v) - 1) / 21) := by decide +kernel
def Bd7 (f : Fm) : Prop := wM f ≤ t7 0 (lea f) (nt f) ∧ wG f ≤ t7 1 (lea f) (nt f) ∧ wA f ≤ t7 2 (lea f) (nt f) ∧ wB f ≤ t7 3 (lea f) (nt f) ∧ wZ f ≤ t7 4 (lea f) (nt f) ∧ wG f + wA f ≤ t7 5 (lea f) (nt f) ∧ wG f + wZ f ≤ t7 6 (lea f) (nt f)
theorem mxle {a b c d k n : Nat} (h1 : k + a + c ≤ n) (h2 : k + b + d ≤ n) (hc : c = d) : k + max a b + c ≤ n := by
  subst hc
  rcases Nat.le_total a b with h | h
  · rw [Nat.max_eq_right h]; exact h2
  · rw [Nat.max_eq_left h]; exact h1
theorem mx2 {a b k n : Nat} (h1 : k + a ≤ n) (h2 : k + b ≤ n) : k + max a b ≤ n := by
  rcases Nat.le_total a b with h | h
  · rw [Nat.max_eq_right h]; exact h2
  · rw [Nat.max_eq_left h]; exact h1
theorem bd7_leaf : 0 ≤ t7 0 1 0 ∧ 0 ≤ t7 1 1 0 ∧ 1 ≤ t7 2 1 0 ∧ 1 ≤ t7 3 1 0 ∧ 1 ≤ t7 4 1 0 ∧ 1 ≤ t7 5 1 0 ∧ 1 ≤ t7 6 1 0 := by decide +kernel
theorem bd7 : ∀ f : Fm, 2 * lea f + nt f ≤ 31 → lea f + nt f ≤ 20 → Bd7 f := by
  intro f
  induction f with
  | add a b ia ib =>
    intro h1 h2
    have la := lea_pos a
    have lb := lea_pos b
    by_cases hb : isn b = 1
    · have e1 : lea (.add a b) = lea a := by show lea a + (lea b - isn b) = lea a; rw [isn_is hb]; rfl
      have e2 : nt (.add a b) = nt a + 1 := by show nt a + (nt b + isn b) = nt a + 1; rw [isn_is hb]; rfl
      rw [e1, e2] at h1 h2
      obtain ⟨a1, -⟩ := ia (by omega) (by omega)
      obtain ⟨n1, n2, n3⟩ := t7_na (lea a) (by omega) la (nt a) (by omega) (by omega)
      obtain ⟨n4, n5⟩ := t7_nb (lea a) (by omega) la (nt a) (by omega) (by omega)
      obtain ⟨n6, n7⟩ := t7_nc (lea a) (by omega) la (nt a) (by omega) (by omega)
      have az := (ia (by omega) (by omega)).2.2.2.2.1
      have eM : wM (.add a b) = wZ a := by rw [wM_imp, if_pos hb]
      have eG : wG (.add a b) = 1 + wM a := by show 1 + wM a + wG b = _; rw [isn_is hb]; rfl
      have eA : wA (.add a b) = 3 + wM a := by show 2 + wM a + wG b + wA b = _; rw [isn_is hb]; show 2 + wM a + 0 + 1 = _; omega
      have eB : wB (.add a b) = 1 := by show wB b = 1; rw [isn_is hb]; rfl
      have eZ : wZ (.add a b) = 3 + wM a := by show 2 + wM a + wG b + wZ b = _; rw [isn_is hb]; show 2 + wM a + 0 + 1 = _; omega
      unfold Bd7
      rw [e1, e2, eM, eG, eA, eB, eZ]
      exact ⟨by omega, by omega, by omega, by omega, by omega, by omega, by omega⟩
    · have hb0 : isn b = 0 := by have := isn_le b; omega
      have e1 : lea (.add a b) = lea a + lea b := by show lea a + (lea b - isn b) = _; rw [hb0]; rfl
      have e2 : nt (.add a b) = nt a + nt b := by show nt a + (nt b + isn b) = _; rw [hb0]; rfl
      rw [e1, e2] at h1 h2
      obtain ⟨a1, a2, a3, a4, a5, a6, a7⟩ := ia (by omega) (by omega)
      obtain ⟨b1, b2, b3, b4, b5, b6, b7⟩ := ib (by omega) (by omega)
      obtain ⟨n1, n2, n3, n4, n5, n6, n7⟩ := t7_b2 (lea a) (by omega) (lea b) (by omega) la lb (nt a) (by omega) (nt b) (by omega) (by omega)
      have m1 := Nat.mul_le_mul a4 b1
      have eM : wM (.add a b) = wA a + wB a * wM b := by rw [wM_imp, if_neg hb]
      have eG : wG (.add a b) = 1 + wM a + wG b := rfl
      have eA : wA (.add a b) = 2 + wM a + wG b + wA b := rfl
      have eB : wB (.add a b) = wB b := rfl
      have eZ : wZ (.add a b) = 2 + wM a + wG b + wZ b := rfl
      unfold Bd7
      rw [e1, e2, eM, eG, eA, eB, eZ]
      exact ⟨by omega, by omega, by omega, by omega, by omega, by omega, by omega⟩
  | mul a b ia ib =>
    intro h1 h2
    have la := lea_pos a
    have lb := lea_pos b
    have h1 : 2 * (lea a + lea b) + (nt a + nt b) ≤ 31 := h1
    have h2 : lea a + lea b + (nt a + nt b) ≤ 20 := h2
    obtain ⟨a1, a2, a3, a4, a5, a6, a7⟩ := ia (by omega) (by omega)
    obtain ⟨b1, b2, b3, b4, b5, b6, b7⟩ := ib (by omega) (by omega)
    obtain ⟨n1, n2, n2', n3, n4, n5, n6, n6', n7, n7'⟩ := t7_b0 (lea a) (by omega) (lea b) (by omega) la lb (nt a) (by omega) (nt b) (by omega) (by omega)
    have m1 := Nat.mul_le_mul a4 b3
    have m2 := Nat.mul_le_mul a4 b4
    have m3 := Nat.mul_le_mul a4 b5
    have m4 := Nat.mul_le_mul a4 b6
    have m5 := Nat.mul_le_mul a4 b7
    have hp := wB_pos a
    have p1 : wG b + wB a * wA b ≤ wB a * (wG b + wA b) := by
      rw [Nat.mul_add]
      have : 1 * wG b ≤ wB a * wG b := Nat.mul_le_mul_right _ hp
      omega
    have p2 : wG b + wB a * wZ b ≤ wB a * (wG b + wZ b) := by
      rw [Nat.mul_add]
      have : 1 * wG b ≤ wB a * wG b := Nat.mul_le_mul_right _ hp
      omega
    show wM (.mul a b) ≤ t7 0 (lea a + lea b) (nt a + nt b) ∧ 1 + max (wG a) (wG b) ≤ t7 1 (lea a + lea b) (nt a + nt b) ∧ 1 + wA a + wB a * wA b ≤ t7 2 (lea a + lea b) (nt a + nt b) ∧ wB a * wB b ≤ t7 3 (lea a + lea b) (nt a + nt b) ∧ 1 + wA a + wB a * wZ b ≤ t7 4 (lea a + lea b) (nt a + nt b) ∧ 1 + max (wG a) (wG b) + (1 + wA a + wB a * wA b) ≤ t7 5 (lea a + lea b) (nt a + nt b) ∧ 1 + max (wG a) (wG b) + (1 + wA a + wB a * wZ b) ≤ t7 6 (lea a + lea b) (nt a + nt b)
    exact ⟨by show 1 + wM a + wM b ≤ _; omega, mx2 (by omega) (by omega), by omega, by omega, by omega, mxle (by omega) (by omega) rfl, mxle (by omega) (by omega) rfl⟩
  | sub a b ia ib =>
    intro h1 h2
    have la := lea_pos a
    have lb := lea_pos b
    have h1 : 2 * (lea a + lea b) + (nt a + nt b) ≤ 31 := h1
    have h2 : lea a + lea b + (nt a + nt b) ≤ 20 := h2
    obtain ⟨a1, a2, a3, a4, a5, a6, a7⟩ := ia (by omega) (by omega)
    obtain ⟨b1, b2, b3, b4, b5, b6, b7⟩ := ib (by omega) (by omega)
    obtain ⟨n1, n2, n2', -⟩ := t7_b0 (lea a) (by omega) (lea b) (by omega) la lb (nt a) (by omega) (nt b) (by omega) (by omega)
    obtain ⟨o3, o4, o5, o6, o6', o7, o7'⟩ := t7_b1 (lea a) (by omega) (lea b) (by omega) la lb (nt a) (by omega) (nt b) (by omega) (by omega)
    show 1 + max (wM a) (wM b) ≤ t7 0 (lea a + lea b) (nt a + nt b) ∧ 1 + max (wG a) (wG b) ≤ t7 1 (lea a + lea b) (nt a + nt b) ∧ 1 + wA a + wA b ≤ t7 2 (lea a + lea b) (nt a + nt b) ∧ wB a + wB b ≤ t7 3 (lea a + lea b) (nt a + nt b) ∧ 1 + wZ a + wZ b ≤ t7 4 (lea a + lea b) (nt a + nt b) ∧ 1 + max (wG a) (wG b) + (1 + wA a + wA b) ≤ t7 5 (lea a + lea b) (nt a + nt b) ∧ 1 + max (wG a) (wG b) + (1 + wZ a + wZ b) ≤ t7 6 (lea a + lea b) (nt a + nt b)
    exact ⟨mx2 (by omega) (by omega), mx2 (by omega) (by omega), by omega, by omega, by omega, mxle (by omega) (by omega) rfl, mxle (by omega) (by omega) rfl⟩
  | _ => intro h1 h2; exact bd7_leaf
/-- a told formula of less than forty words -/
theorem wt_top {f : Fm} (h1 : 2 * lea f + nt f ≤ 31) (h2 : wdf f ≤ 40) : wM f ≤ 5 * wdf f + 1170 * (wdf f / 21) ∧ wG f ≤ 5 * wdf f + 1170 * (wdf f / 21) := by
  have hw := lea_nt f
  have hl := lea_pos f
  obtain ⟨b1, b2, -⟩ := bd7 f h1 (by omega)
  obtain ⟨c1, c2⟩ := t7_top (lea f) (by omega) hl (nt f) (by omega) (by omega)
  have e : 2 * (lea f + nt f) - 1 = wdf f := by omega
  rw [e] at c1 c2
  exact ⟨Nat.le_trans b1 c1, Nat.le_trans b2 c2⟩
