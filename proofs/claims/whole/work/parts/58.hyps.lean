/-! HYPOTHESES of the class, in two objects: 10 (given), 16 (told) -/
def HyC (M : Mem) (a c : Nat) (H : List (Nat × Fm)) : Prop := M.2.2.1 a 3 = nI H.length ∧ H.length ≤ 6 ∧ ∀ j, (hj : j < H.length) → ∃ v, v < c ∧ M.2.2.1 (a + 1) j = nI H[j].1 ∧ M.2.2.1 (a + 2) j = nI v ∧ dC M v = H[j].2 ∧ M.2.2.1 (a + 3) j = nI (wdf H[j].2) ∧ H[j].1 < 2147483648
section HY10
variable {M : Mem}
theorem find10_loop (hW : Wd M) (k : Nat) {H : List (Nat × Fm)} {c : Nat} (hH : HyC M 10 c H) {nm : Nat} (hnm : nm < 2147483648) : ∀ z j, j + z = H.length →
    (∀ i, j ≤ i → (hi : i < H.length) → H[i].1 = nm → (∀ u, j ≤ u → (hu : u < i) → (H[u]'(by omega)).1 ≠ nm) → lp (st_X2_find k) (2, [.ref 10, .int (nI nm), .int (nI j)], M) = some (nI i, M)) ∧
    ((∀ i, j ≤ i → (hi : i < H.length) → H[i].1 ≠ nm) → lp (st_X2_find k) (2, [.ref 10, .int (nI nm), .int (nI j)], M) = some (-1, M)) := by
  have h6 := hH.2.1
  intro z
  induction z with
  | zero =>
    intro j hj
    refine ⟨fun i h1 h2 => by omega, fun _ => ?_⟩
    refine (ge_X2_find_2 k 10 _ _ M).trans ?_
    simp (disch := omega) only [T_X2_find_2, W_10 hW, gd_true, fO, fA, ex_in, bnd_s, bnd2_s, cal_s, Nat.reduceLT, true_and, and_true, and_self, nI_z, vp_iff, up2_if, Nat.reduceEqDiff, false_and, and_false, if_false, if_true, nI_1, nI_le_, nI_lt_, nI_lt0, nI_eq_, nI_add, hH.1]
    rw [if_pos (by omega)]
  | succ z ih =>
    intro j hj
    have hjl : j < H.length := by omega
    obtain ⟨v, g1, g2, g3, g4, g5, g6⟩ := hH.2.2 j hjl
    have step : lp (st_X2_find k) (2, [.ref 10, .int (nI nm), .int (nI j)], M) = if H[j].1 = nm then some (nI j, M) else lp (st_X2_find k) (2, [.ref 10, .int (nI nm), .int (nI (j + 1))], M) := by
      refine (ge_X2_find_2 k 10 _ _ M).trans ?_
      simp (disch := omega) only [T_X2_find_2, W_10 hW, gd_true, fO, fA, ex_in, bnd_s, bnd2_s, cal_s, Nat.reduceLT, true_and, and_true, and_self, nI_z, vp_iff, up2_if, Nat.reduceEqDiff, false_and, and_false, if_false, if_true, nI_1, nI_le_, nI_lt_, nI_lt0, nI_eq_, nI_add, hH.1, g2, show (6 : Int32) = nI 6 from rfl]
      rw [if_neg (by omega), if_neg (by omega), gd_pos (by omega)]
    rw [step]
    obtain ⟨i1, i2⟩ := ih (j + 1) (by omega)
    constructor
    · intro i h1 h2 e hu
      by_cases q : i = j
      · subst q
        rw [if_pos e]
      · rw [if_neg (hu j (Nat.le_refl _) (by omega))]
        exact i1 i (by omega) h2 e (fun u a b => hu u (by omega) b)
    · intro h
      rw [if_neg (h j (Nat.le_refl _) hjl)]
      exact i2 (fun i a b => h i (by omega) b)
/-- FIND: the first of that name, or none -/
theorem c_find10 (hW : Wd M) (k : Nat) {H : List (Nat × Fm)} {c : Nat} (hH : HyC M 10 c H) {nm : Nat} (hnm : nm < 2147483648) :
    (∀ i, (hi : i < H.length) → H[i].1 = nm → (∀ u, (hu : u < i) → (H[u]'(by omega)).1 ≠ nm) → f_X2_find k 10 (nI nm) M = some (nI i, M)) ∧
    ((∀ i, (hi : i < H.length) → H[i].1 ≠ nm) → f_X2_find k 10 (nI nm) M = some (-1, M)) := by
  obtain ⟨h1, h2⟩ := find10_loop hW k hH hnm H.length 0 (by omega)
  exact ⟨fun i hi e hu => (ge_X2_find_0 k 10 (nI nm) M).trans (h1 i (Nat.zero_le _) hi e (fun u _ b => hu u b)), fun h => (ge_X2_find_0 k 10 (nI nm) M).trans (h2 (fun i _ hi => h i hi))⟩
theorem c_isFull10 (hW : Wd M) (k : Nat) {H : List (Nat × Fm)} {c : Nat} (hH : HyC M 10 c H) : (H.length < 6 → f_X2_isFull k 10 M = some (0, M)) ∧ (¬ H.length < 6 → f_X2_isFull k 10 M = some (1, M)) := by
  have h6 := hH.2.1
  unfold f_X2_isFull b_X2_isFull
  simp (disch := omega) only [T_X2_isFull_0, W_10 hW, gd_true, fO, fA, ex_in, bnd_s, bnd2_s, cal_s, Nat.reduceLT, true_and, and_true, and_self, nI_z, vp_iff, up2_if, Nat.reduceEqDiff, false_and, and_false, if_false, if_true, nI_1, nI_le_, nI_lt_, nI_lt0, nI_eq_, nI_add, hH.1, show (6 : Int32) = nI 6 from rfl]
  exact ⟨fun h => if_pos h, fun h => if_neg h⟩
theorem c_clear10 (hW : Wd M) (k : Nat) : f_X2_clear k 10 M = some ((), wI M 10 3 0) := by
  unfold f_X2_clear b_X2_clear
  simp only [T_X2_clear_0, W_10 hW, gd_true, fO, fA, ex_in, bnd_s, bnd2_s, cal_s, Nat.reduceLT, true_and, and_true, and_self, nI_z, vp_iff, up2_if, Nat.reduceEqDiff, false_and, and_false, if_false, if_true, nI_1, nI_le_, nI_lt_, nI_lt0, nI_eq_, nI_add]
abbrev adM10 (M : Mem) (j : Nat) (x y z : Int32) : Mem := wI (wI (wI (wI M 11 j x) 12 j y) 13 j z) 10 3 (nI (j + 1))
theorem c_add10 (hW : Wd M) (k : Nat) {j : Nat} (hj : M.2.2.1 10 3 = nI j) (h6 : j < 6) (x y z : Int32) : f_X2_add k 10 x y z M = some ((), adM10 M j x y z) := by
  unfold f_X2_add b_X2_add
  simp (disch := omega) only [T_X2_add_0, W_10 hW, gd_true, fO, fA, ex_in, bnd_s, bnd2_s, cal_s, Nat.reduceLT, true_and, and_true, and_self, nI_z, vp_iff, up2_if, Nat.reduceEqDiff, false_and, and_false, if_false, if_true, nI_1, nI_le_, nI_lt_, nI_lt0, nI_eq_, nI_add, hj, show (6 : Int32) = nI 6 from rfl]
  rw [if_neg (by omega), gd_pos h6, gd_pos h6, gd_pos h6]
theorem HyC.add10 {c : Nat} {H : List (Nat × Fm)} (h : HyC M 10 c H) (h6 : H.length < 6) {nm v : Nat} (hv : v < c) (hnm : nm < 2147483648) : HyC (adM10 M H.length (nI nm) (nI v) (nI (wdf (dC M v)))) 10 c (H ++ [(nm, dC M v)]) := by
  refine ⟨by simp [up2_if], by simp; omega, fun j hj => ?_⟩
  by_cases e : j < H.length
  · obtain ⟨u, g1, g2, g3, g4, g5, g6⟩ := h.2.2 j e
    have ne : ¬ j = H.length := by omega
    refine ⟨u, g1, ?_, ?_, ?_, ?_, ?_⟩
    · rw [List.getElem_append_left e]
      simp only [up2_if, Nat.reduceEqDiff, Nat.reduceAdd, false_and, if_false, true_and, ne]
      exact g2
    · simp only [up2_if, Nat.reduceEqDiff, Nat.reduceAdd, false_and, if_false, true_and, ne]
      exact g3
    · rw [List.getElem_append_left e]
      exact g4
    · rw [List.getElem_append_left e]
      simp only [up2_if, Nat.reduceEqDiff, Nat.reduceAdd, false_and, if_false, true_and, ne]
      exact g5
    · rw [List.getElem_append_left e]
      exact g6
  · have hl : j = H.length := by simp at hj; omega
    subst hl
    refine ⟨v, hv, ?_, ?_, ?_, ?_, ?_⟩
    · simp [up2_if]
    · simp [up2_if]
    · simp
      rfl
    · simp [up2_if]
    · simpa using hnm
end HY10
section HY16
variable {M : Mem}
theorem find16_loop (hW : Wd M) (k : Nat) {H : List (Nat × Fm)} {c : Nat} (hH : HyC M 16 c H) {nm : Nat} (hnm : nm < 2147483648) : ∀ z j, j + z = H.length →
    (∀ i, j ≤ i → (hi : i < H.length) → H[i].1 = nm → (∀ u, j ≤ u → (hu : u < i) → (H[u]'(by omega)).1 ≠ nm) → lp (st_X2_find k) (2, [.ref 16, .int (nI nm), .int (nI j)], M) = some (nI i, M)) ∧
    ((∀ i, j ≤ i → (hi : i < H.length) → H[i].1 ≠ nm) → lp (st_X2_find k) (2, [.ref 16, .int (nI nm), .int (nI j)], M) = some (-1, M)) := by
  have h6 := hH.2.1
  intro z
  induction z with
  | zero =>
    intro j hj
    refine ⟨fun i h1 h2 => by omega, fun _ => ?_⟩
    refine (ge_X2_find_2 k 16 _ _ M).trans ?_
    simp (disch := omega) only [T_X2_find_2, W_16 hW, gd_true, fO, fA, ex_in, bnd_s, bnd2_s, cal_s, Nat.reduceLT, true_and, and_true, and_self, nI_z, vp_iff, up2_if, Nat.reduceEqDiff, false_and, and_false, if_false, if_true, nI_1, nI_le_, nI_lt_, nI_lt0, nI_eq_, nI_add, hH.1]
    rw [if_pos (by omega)]
  | succ z ih =>
    intro j hj
    have hjl : j < H.length := by omega
    obtain ⟨v, g1, g2, g3, g4, g5, g6⟩ := hH.2.2 j hjl
    have step : lp (st_X2_find k) (2, [.ref 16, .int (nI nm), .int (nI j)], M) = if H[j].1 = nm then some (nI j, M) else lp (st_X2_find k) (2, [.ref 16, .int (nI nm), .int (nI (j + 1))], M) := by
      refine (ge_X2_find_2 k 16 _ _ M).trans ?_
      simp (disch := omega) only [T_X2_find_2, W_16 hW, gd_true, fO, fA, ex_in, bnd_s, bnd2_s, cal_s, Nat.reduceLT, true_and, and_true, and_self, nI_z, vp_iff, up2_if, Nat.reduceEqDiff, false_and, and_false, if_false, if_true, nI_1, nI_le_, nI_lt_, nI_lt0, nI_eq_, nI_add, hH.1, g2, show (6 : Int32) = nI 6 from rfl]
      rw [if_neg (by omega), if_neg (by omega), gd_pos (by omega)]
    rw [step]
    obtain ⟨i1, i2⟩ := ih (j + 1) (by omega)
    constructor
    · intro i h1 h2 e hu
      by_cases q : i = j
      · subst q
        rw [if_pos e]
      · rw [if_neg (hu j (Nat.le_refl _) (by omega))]
        exact i1 i (by omega) h2 e (fun u a b => hu u (by omega) b)
    · intro h
      rw [if_neg (h j (Nat.le_refl _) hjl)]
      exact i2 (fun i a b => h i (by omega) b)
/-- FIND: the first of that name, or none -/
theorem c_find16 (hW : Wd M) (k : Nat) {H : List (Nat × Fm)} {c : Nat} (hH : HyC M 16 c H) {nm : Nat} (hnm : nm < 2147483648) :
    (∀ i, (hi : i < H.length) → H[i].1 = nm → (∀ u, (hu : u < i) → (H[u]'(by omega)).1 ≠ nm) → f_X2_find k 16 (nI nm) M = some (nI i, M)) ∧
    ((∀ i, (hi : i < H.length) → H[i].1 ≠ nm) → f_X2_find k 16 (nI nm) M = some (-1, M)) := by
  obtain ⟨h1, h2⟩ := find16_loop hW k hH hnm H.length 0 (by omega)
  exact ⟨fun i hi e hu => (ge_X2_find_0 k 16 (nI nm) M).trans (h1 i (Nat.zero_le _) hi e (fun u _ b => hu u b)), fun h => (ge_X2_find_0 k 16 (nI nm) M).trans (h2 (fun i _ hi => h i hi))⟩
theorem c_isFull16 (hW : Wd M) (k : Nat) {H : List (Nat × Fm)} {c : Nat} (hH : HyC M 16 c H) : (H.length < 6 → f_X2_isFull k 16 M = some (0, M)) ∧ (¬ H.length < 6 → f_X2_isFull k 16 M = some (1, M)) := by
  have h6 := hH.2.1
  unfold f_X2_isFull b_X2_isFull
  simp (disch := omega) only [T_X2_isFull_0, W_16 hW, gd_true, fO, fA, ex_in, bnd_s, bnd2_s, cal_s, Nat.reduceLT, true_and, and_true, and_self, nI_z, vp_iff, up2_if, Nat.reduceEqDiff, false_and, and_false, if_false, if_true, nI_1, nI_le_, nI_lt_, nI_lt0, nI_eq_, nI_add, hH.1, show (6 : Int32) = nI 6 from rfl]
  exact ⟨fun h => if_pos h, fun h => if_neg h⟩
theorem c_clear16 (hW : Wd M) (k : Nat) : f_X2_clear k 16 M = some ((), wI M 16 3 0) := by
  unfold f_X2_clear b_X2_clear
  simp only [T_X2_clear_0, W_16 hW, gd_true, fO, fA, ex_in, bnd_s, bnd2_s, cal_s, Nat.reduceLT, true_and, and_true, and_self, nI_z, vp_iff, up2_if, Nat.reduceEqDiff, false_and, and_false, if_false, if_true, nI_1, nI_le_, nI_lt_, nI_lt0, nI_eq_, nI_add]
abbrev adM16 (M : Mem) (j : Nat) (x y z : Int32) : Mem := wI (wI (wI (wI M 17 j x) 18 j y) 19 j z) 16 3 (nI (j + 1))
theorem c_add16 (hW : Wd M) (k : Nat) {j : Nat} (hj : M.2.2.1 16 3 = nI j) (h6 : j < 6) (x y z : Int32) : f_X2_add k 16 x y z M = some ((), adM16 M j x y z) := by
  unfold f_X2_add b_X2_add
  simp (disch := omega) only [T_X2_add_0, W_16 hW, gd_true, fO, fA, ex_in, bnd_s, bnd2_s, cal_s, Nat.reduceLT, true_and, and_true, and_self, nI_z, vp_iff, up2_if, Nat.reduceEqDiff, false_and, and_false, if_false, if_true, nI_1, nI_le_, nI_lt_, nI_lt0, nI_eq_, nI_add, hj, show (6 : Int32) = nI 6 from rfl]
  rw [if_neg (by omega), gd_pos h6, gd_pos h6, gd_pos h6]
theorem HyC.add16 {c : Nat} {H : List (Nat × Fm)} (h : HyC M 16 c H) (h6 : H.length < 6) {nm v : Nat} (hv : v < c) (hnm : nm < 2147483648) : HyC (adM16 M H.length (nI nm) (nI v) (nI (wdf (dC M v)))) 16 c (H ++ [(nm, dC M v)]) := by
  refine ⟨by simp [up2_if], by simp; omega, fun j hj => ?_⟩
  by_cases e : j < H.length
  · obtain ⟨u, g1, g2, g3, g4, g5, g6⟩ := h.2.2 j e
    have ne : ¬ j = H.length := by omega
    refine ⟨u, g1, ?_, ?_, ?_, ?_, ?_⟩
    · rw [List.getElem_append_left e]
      simp only [up2_if, Nat.reduceEqDiff, Nat.reduceAdd, false_and, if_false, true_and, ne]
      exact g2
    · simp only [up2_if, Nat.reduceEqDiff, Nat.reduceAdd, false_and, if_false, true_and, ne]
      exact g3
    · rw [List.getElem_append_left e]
      exact g4
    · rw [List.getElem_append_left e]
      simp only [up2_if, Nat.reduceEqDiff, Nat.reduceAdd, false_and, if_false, true_and, ne]
      exact g5
    · rw [List.getElem_append_left e]
      exact g6
  · have hl : j = H.length := by simp at hj; omega
    subst hl
    refine ⟨v, hv, ?_, ?_, ?_, ?_, ?_⟩
    · simp [up2_if]
    · simp [up2_if]
    · simp
      rfl
    · simp [up2_if]
    · simpa using hnm
end HY16
