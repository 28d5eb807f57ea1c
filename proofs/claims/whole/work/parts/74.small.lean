/-! SMALL CALLS: fault, trace -/
section SM
variable {M : Mem}
theorem c_fault (hW : Wd M) (k : Nat) (x : Int32) : f_X10_fault k 0 x M = some (if x = 0 then M.2.2.1 14 17 else if x = 1 then M.2.2.1 14 18 else -1, M) := by
  unfold f_X10_fault b_X10_fault
  simp only [T_X10_fault_0, W_0 hW, W_14 hW, gd_true, fO, Nat.reduceLT, and_self, bnd_s]
  by_cases h0 : x = 0
  · rw [if_pos h0, if_pos h0]
  · rw [if_neg h0, if_neg h0]
    by_cases h1 : x = 1
    · rw [if_pos h1, if_pos h1]
    · rw [if_neg h1, if_neg h1]
theorem rx_fault (hW : Wd M) (k : Nat) (x : Int32) : f_X11_fault k 89 x M = some (if x = 0 then M.2.2.1 89 32 else if x = 1 then M.2.2.1 89 33 else -1, wI M 89 0 0) := by
  unfold f_X11_fault b_X11_fault
  simp only [T_X11_fault_0, W_89 hW, gd_true, fO, Nat.reduceLT, and_self, up2_if, Nat.reduceEqDiff, and_false, if_false]
  by_cases h0 : x = 0
  · rw [if_pos h0, if_pos h0]
  · rw [if_neg h0, if_neg h0]
    by_cases h1 : x = 1
    · rw [if_pos h1, if_pos h1]
    · rw [if_neg h1, if_neg h1]
end SM
