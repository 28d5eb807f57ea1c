/-! PROOF in the class: pieces -/
section CPR
variable {M : Mem}
theorem c_at23 (hW : Wd M) (k : Nat) {i : Nat} (hi : i < 120) : f_X10_at k 23 (nI i) M = some (M.2.2.1 23 i, M) := by
  have e : aLen M 23 = some 120 := by simp [aLen, W_14 hW]
  unfold f_X10_at b_X10_at
  simp (disch := omega) only [T_X10_at_0, nI_lt0, if_false, e, bnd_s, show Int32.ofNat 120 = nI 120 from rfl, nI_le_, W_14 hW, gd_true, fA, ex_in, Nat.reduceLT, true_and, and_self, nI_z, vp_iff]
  rw [if_neg (by omega), gd_pos (by omega)]
theorem c_blameTerm (hW : Wd M) (k : Nat) {i : Nat} (hi : i < 120) : f_X6_blameTerm (k + 1) 14 (nI i) M = some ((), wI (wI M 14 17 5) 14 18 (M.2.2.1 23 i)) := by
  have e := c_at23 hW k hi
  have e2 := c_fail hW k 5 (M.2.2.1 23 i)
  unfold f_X6_blameTerm b_X6_blameTerm
  simp only [T_X6_blameTerm_0, W_14 hW, gd_true, fO, Nat.reduceLT, and_self, cal_s, bnd_s, bnd2_s, e, e2]
end CPR
