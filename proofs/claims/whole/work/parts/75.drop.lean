/-! SLOTS' NUMBERS, drop -/
section DR
variable {M : Mem}
theorem slot_cases (x : Int32) : (∃ s, s < 4 ∧ x = nI s) ∨ ∀ s, s < 4 → x ≠ nI s := by
  by_cases h : ∃ s, s < 4 ∧ x = nI s
  · exact Or.inl h
  · exact Or.inr (fun s hs e => h ⟨s, hs, e⟩)
theorem c_noSlot (k : Nat) (x : Int32) : (∀ s, s < 4 → x = nI s → f_X10_noSlot k x M = some (0, M)) ∧ ((∀ s, s < 4 → x ≠ nI s) → f_X10_noSlot k x M = some (1, M)) := by
  unfold f_X10_noSlot b_X10_noSlot
  constructor
  · intro s hs e
    subst e
    simp (disch := omega) only [T_X10_noSlot_0, nI_lt0, if_false, show (4 : Int32) = nI 4 from rfl, nI_lt_]
    rw [if_pos hs]
  · intro h
    by_cases h0 : x < 0
    · simp only [T_X10_noSlot_0, h0, if_true]
    · obtain ⟨j, hj, rfl⟩ := nI_of h0
      have h4 : ¬ j < 4 := fun q => h j q rfl
      simp (disch := omega) only [T_X10_noSlot_0, nI_lt0, if_false, show (4 : Int32) = nI 4 from rfl, nI_lt_, h4]
theorem rx_isSlot (k : Nat) (x : Int32) : (∀ s, s < 4 → x = nI s → f_X11_isSlot (k + 1) x M = some (1, M)) ∧ ((∀ s, s < 4 → x ≠ nI s) → f_X11_isSlot (k + 1) x M = some (0, M)) := by
  have hin := rx_isIn (M := M) k (Int32.toInt64 x) (Int32.toInt64 0) (Int32.toInt64 3)
  rw [fa_wide_le, fa_wide_le] at hin
  have l0 : (0 : Int64) = Int32.toInt64 0 := by decide
  have l3 : (3 : Int64) = Int32.toInt64 3 := by decide
  unfold f_X11_isSlot b_X11_isSlot
  constructor
  · intro s hs e
    have e1 := hin.1 (by rw [e]; exact ⟨nI_pos' (by omega), (nI_leI (b := 3) (by omega) (by omega)).mpr (by omega)⟩)
    simp only [T_X11_isSlot_0, cal_s, l0, l3, e1, bnd2_s, nar_b1, gd_true]
  · intro h
    have e1 := hin.2 (fun q => by
      obtain ⟨j, hj, e⟩ := nI_of (x := x) (Int32.not_lt.mpr q.1)
      rw [e] at q
      have := (nI_leI (b := 3) (by omega) (by omega)).mp q.2
      exact h j (by omega) e)
    simp only [T_X11_isSlot_0, cal_s, l0, l3, e1, bnd2_s, nar_b0, gd_true]
theorem slot_at (hW : Wd M) {s : Nat} (hs : s < 4) : M.2.2.2.2 24 s = some (25 + 3 * s) ∧ M.2.1 (25 + 3 * s) = .inr 9 ∧ 25 + 3 * s < 126 := by
  have hw := W_24 hW
  match s, hs with
  | 0, _ => exact ⟨hw.2.1, hw.2.2.2.2.2.2.1, by omega⟩
  | 1, _ => exact ⟨hw.2.2.1, hw.2.2.2.2.2.2.2.1, by omega⟩
  | 2, _ => exact ⟨hw.2.2.2.1, hw.2.2.2.2.2.2.2.2.1, by omega⟩
  | 3, _ => exact ⟨hw.2.2.2.2.1, hw.2.2.2.2.2.2.2.2.2, by omega⟩
theorem c_drop (hW : Wd M) (k : Nat) (x : Int32) : (∀ s, s < 4 → x = nI s → f_X10_drop (k + 1) 0 x M = some (M.2.2.1 (25 + 3 * s) 2, wI (wI M (25 + 3 * s) 2 0) (25 + 3 * s) 3 0)) ∧ ((∀ s, s < 4 → x ≠ nI s) → f_X10_drop (k + 1) 0 x M = some (-2, M)) := by
  obtain ⟨nA, nB⟩ := c_noSlot (M := M) k x
  unfold f_X10_drop b_X10_drop
  constructor
  · intro s hs e
    have e1 := nA s hs e
    obtain ⟨h1, h2, h3⟩ := slot_at hW hs
    have ec : f_X9_clear k (25 + 3 * s) M = some ((), wI (wI M (25 + 3 * s) 2 0) (25 + 3 * s) 3 0) := by
      unfold f_X9_clear b_X9_clear
      simp only [T_X9_clear_0, gd_true, fO, hW.1, h2, h3, and_self]
    subst e
    have v4 : vp_in (nI s) 4 := vp_nI hs (by omega)
    simp (disch := omega) only [T_X10_drop_0, cal_s, e1, bnd2_s, if_true, W_0 hW, gd_true, fO, fA, ex_in, Nat.reduceLT, true_and, and_self, bnd_s, v4, nI_z, h1, h2, h3, ec]
  · intro h
    have e1 := nB h
    simp only [T_X10_drop_0, cal_s, e1, bnd2_s, show ((1 : Int32) = 0) = False from eq_false (by decide), if_false]
theorem rx_drop (hW : Wd M) (k : Nat) (x : Int32) : (∀ s, s < 4 → x = nI s → f_X11_drop (k + 2) 89 x M = some (M.2.2.1 104 s, wI (wI M 89 0 0) 104 s 0)) ∧ ((∀ s, s < 4 → x ≠ nI s) → f_X11_drop (k + 2) 89 x M = some (-2, wI M 89 0 0)) := by
  obtain ⟨nA, nB⟩ := rx_isSlot (M := wI M 89 0 0) k x
  unfold f_X11_drop b_X11_drop
  constructor
  · intro s hs e
    have e1 := nA s hs e
    subst e
    have v4 : vp_in (nI s) 4 := vp_nI hs (by omega)
    simp (disch := omega) only [T_X11_drop_0, W_89 hW, gd_true, fO, fA, ex_in, Nat.reduceLT, true_and, and_self, cal_s, e1, bnd2_s, show ((1 : Int32) = 0) = False from eq_false (by decide), if_false, bnd_s, v4, nI_z, up2_if, Nat.reduceEqDiff, false_and]
  · intro h
    have e1 := nB h
    simp only [T_X11_drop_0, W_89 hW, gd_true, fO, Nat.reduceLT, and_self, cal_s, e1, bnd2_s, if_true]
end DR
