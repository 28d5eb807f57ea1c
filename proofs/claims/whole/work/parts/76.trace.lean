/-! TRACE -/
section TR
variable {M : Mem}
theorem c_trace (hW : Wd M) (k : Nat) {t : Nat} (h15 : M.2.2.1 0 15 = nI t) (ht : t ≤ 60) (x : Int32) : (∀ j, j < t → x = nI j → f_X10_trace k 0 x M = some (M.2.2.1 88 j, M)) ∧ ((∀ j, j < t → x ≠ nI j) → f_X10_trace k 0 x M = some (-2, M)) := by
  unfold f_X10_trace b_X10_trace
  constructor
  · intro j hj e
    subst e
    have v : vp_in (nI j) 60 := vp_nI (by omega) (by omega)
    simp (disch := omega) only [T_X10_trace_0, nI_lt0, if_false, W_0 hW, gd_true, fO, fA, ex_in, Nat.reduceLT, true_and, and_self, bnd_s, h15, nI_le_, show (60 : Int32) = nI 60 from rfl, nI_lt_, v, nI_z]
    rw [if_neg (by omega), if_pos (by omega)]
  · intro h
    by_cases h0 : x < 0
    · simp only [T_X10_trace_0, h0, if_true]
    · obtain ⟨j, hj, rfl⟩ := nI_of h0
      have h4 : t ≤ j := Nat.le_of_not_lt (fun q => h j q rfl)
      simp (disch := omega) only [T_X10_trace_0, nI_lt0, if_false, W_0 hW, gd_true, fO, Nat.reduceLT, and_self, h15, nI_le_, h4, if_true]
theorem rx_trace (hW : Wd M) (k : Nat) {t : Nat} (h47 : M.2.2.1 89 47 = nI t) (ht : t ≤ 60) (x : Int32) : (∀ j, j < t → x = nI j → f_X11_trace (k + 1) 89 x M = some (M.2.2.1 117 j, wI M 89 0 0)) ∧ ((∀ j, j < t → x ≠ nI j) → f_X11_trace (k + 1) 89 x M = some (-2, wI M 89 0 0)) := by
  have hin := rx_isIn (M := wI M 89 0 0) k (Int32.toInt64 x) (Int32.toInt64 0) (Int32.toInt64 (pm t))
  rw [fa_wide_le, fa_wide_le] at hin
  have l0 : (0 : Int64) = Int32.toInt64 0 := by decide
  unfold f_X11_trace b_X11_trace
  constructor
  · intro j hj e
    obtain ⟨t', rfl⟩ : ∃ u, t = u + 1 := ⟨t - 1, by omega⟩
    have e1 := hin.1 (by rw [e]; exact ⟨nI_pos' (by omega), (nI_leI (a := j) (b := t') (by omega) (by omega)).mpr (by omega)⟩)
    subst e
    have v : vp_in (nI j) 60 := vp_nI (by omega) (by omega)
    simp (disch := omega) only [T_X11_trace_0, W_89 hW, gd_true, fO, fA, ex_in, Nat.reduceLT, true_and, and_self, cal_s, up2_if, Nat.reduceEqDiff, and_false, false_and, if_false, h47, pm_sub, l0, e1, bnd2_s, show ((1 : Int32) = 0) = False from eq_false (by decide), bnd_s, v, nI_z]
  · intro h
    have e1 := hin.2 (fun q => by
      obtain ⟨j, hj, e⟩ := nI_of (x := x) (Int32.not_lt.mpr q.1)
      rw [e] at q
      cases t with
      | zero => exact absurd (Int32.le_trans (nI_pos' (n := j) (by omega)) q.2) (by decide)
      | succ u =>
        have := (nI_leI (a := j) (b := u) (by omega) (by omega)).mp q.2
        exact h j (by omega) e)
    simp only [T_X11_trace_0, W_89 hW, gd_true, fO, Nat.reduceLT, and_self, cal_s, up2_if, Nat.reduceEqDiff, and_false, if_false, h47, pm_sub, l0, e1, bnd2_s, if_true]
end TR
