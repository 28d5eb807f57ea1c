/-! COUNT -/
def bts (mm : Nat → Nat) : Nat → Int32
  | 0 => 0
  | s + 1 => if mm s = 0 then bts mm s else bts mm s ||| ((1 : Int32) <<< (nI s &&& 31))
section CT
variable {M : Mem} {mm : Nat → Nat}
theorem full_loop (hW : Wd M) (k : Nat) (hm : ∀ s, s < 4 → mm s ≤ 200 ∧ M.2.2.1 (25 + 3 * s) 2 = nI (mm s)) : ∀ z s, s + z = 4 → lp (st_X10_fullSlots k) (4, [.ref 0, .int (bts mm s), .int (nI s)], M) = some (bts mm 4, M) := by
  intro z
  induction z with
  | zero =>
    intro s hs
    have e : s = 4 := by omega
    subst e
    refine (ge_X10_fullSlots_4 k 0 _ _ M).trans ?_
    simp only [T_X10_fullSlots_4, show ((4 : Int32) ≤ nI 4) = True from eq_true (by decide), if_true]
  | succ z ih =>
    intro s hs
    have hs4 : s < 4 := by omega
    obtain ⟨h1, h2, h3⟩ := slot_at hW hs4
    obtain ⟨g1, g2⟩ := hm s hs4
    have v4 : vp_in (nI s) 4 := vp_nI hs4 (by omega)
    have hz : (nI (mm s) ≤ 0) = (mm s = 0) := propext ⟨fun q => by have := (nI_leI (b := 0) (by omega) (by omega)).mp q; omega, fun q => by rw [q]; decide⟩
    rw [← ih (s + 1) (by omega)]
    refine (ge_X10_fullSlots_4 k 0 _ _ M).trans ?_
    simp (disch := omega) only [T_X10_fullSlots_4, show (4 : Int32) = nI 4 from rfl, nI_le_, W_0 hW, gd_true, fO, fA, ex_in, Nat.reduceLT, true_and, and_self, bnd_s, v4, nI_z, h1, h2, h3, g2, hz, nI_1]
    rw [if_neg (by omega)]
    show _ = lp _ (4, [.ref 0, .int (if mm s = 0 then bts mm s else bts mm s ||| ((1 : Int32) <<< (nI s &&& 31))), .int (nI (s + 1))], M)
    by_cases q : mm s = 0
    · rw [if_pos q, if_pos q]
    · rw [if_neg q, if_neg q]
theorem rfull_loop (hW : Wd M) (k : Nat) (hm : ∀ s, s < 4 → mm s ≤ 200 ∧ M.2.2.1 104 s = nI (mm s)) : ∀ z s, s + z = 4 → lp (st_X11_count (k + 1)) (45, [.ref 89, .int (bts mm s), .int (nI s)], M) = some (bts mm 4, M) := by
  intro z
  induction z with
  | zero =>
    intro s hs
    have e : s = 4 := by omega
    subst e
    refine (ge_X11_count_45 (k + 1) 89 _ _ M).trans ?_
    simp only [T_X11_count_45, show ((4 : Int32) ≤ nI 4) = True from eq_true (by decide), if_true]
  | succ z ih =>
    intro s hs
    have hs4 : s < 4 := by omega
    obtain ⟨g1, g2⟩ := hm s hs4
    have v4 : vp_in (nI s) 4 := vp_nI hs4 (by omega)
    have hz : (nI (mm s) = 0) = (mm s = 0) := propext (nI_eq (b := 0) (by omega) (by omega))
    have ee : f_X11_isEmpty k 89 (nI s) M = some (if mm s = 0 then 1 else 0, M) := by
      unfold f_X11_isEmpty b_X11_isEmpty
      simp (disch := omega) only [T_X11_isEmpty_0, W_89 hW, gd_true, fO, fA, ex_in, Nat.reduceLT, true_and, and_self, bnd_s, v4, nI_z, g2, hz]
      by_cases q : mm s = 0
      · rw [if_pos q, if_pos q]
      · rw [if_neg q, if_neg q]
    rw [← ih (s + 1) (by omega)]
    refine (ge_X11_count_45 (k + 1) 89 _ _ M).trans ?_
    simp (disch := omega) only [T_X11_count_45, show (4 : Int32) = nI 4 from rfl, nI_le_, W_89 hW, gd_true, fO, Nat.reduceLT, and_self, cal_s, ee, bnd2_s, nI_1]
    rw [if_neg (by omega)]
    show _ = lp _ (45, [.ref 89, .int (if mm s = 0 then bts mm s else bts mm s ||| ((1 : Int32) <<< (nI s &&& 31))), .int (nI (s + 1))], M)
    by_cases q : mm s = 0
    · rw [if_pos q, if_neg (by decide), if_pos q, Int32.or_zero]
    · rw [if_neg q, if_pos rfl, if_neg q]
end CT
