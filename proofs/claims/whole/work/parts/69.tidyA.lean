/-! TIDIES: all marks off, then the roots marked -/
/-- a number of the table that is not too deep -/
def NbR (M : Mem) (c D : Nat) (x : Int32) : Prop := ∃ v, v < c ∧ x = nI v ∧ dpf (dR M v) ≤ D
def RtR (M : Mem) (c D : Nat) : Prop := (∃ h, h ≤ 6 ∧ M.2.2.1 89 15 = nI h ∧ ∀ j, j < h → NbR M c D (M.2.2.1 98 j)) ∧ NbR M c D (M.2.2.1 89 16) ∧ (∀ s, s < 4 → ∃ m, m ≤ 200 ∧ M.2.2.1 104 s = nI m ∧ ∀ i, i < m → M.2.2.1 102 (200 * s + i) = 0 ∨ M.2.2.1 103 (200 * s + i) < 0 ∨ NbR M c D (M.2.2.1 103 (200 * s + i))) ∧ ∃ m, m ≤ 400 ∧ M.2.2.1 89 24 = nI m ∧ ∀ i, i < m → M.2.2.1 105 i = 0 ∨ M.2.2.1 106 i < 0 ∨ NbR M c D (M.2.2.1 106 i)
theorem NbR.fr {M M1 : Mem} {c D : Nat} {x : Int32} (h : NbR M c D x) (hF : Fr S95 M M1) : NbR M1 c D x := by
  obtain ⟨v, h1, h2, h3⟩ := h
  refine ⟨v, h1, h2, ?_⟩
  unfold dR at h3 ⊢
  rw [hF.ints (a := 90) (by simp [S95]), hF.ints (a := 91) (by simp [S95]), hF.ints (a := 92) (by simp [S95])]
  exact h3
section TA
theorem td_20 {M : Mem} (hW : Wd M) {c : Nat} (h7 : M.2.2.1 89 7 = nI c) (hc : c ≤ 16384) (k : Nat) : ∀ z j, j + z = c → ∀ M1, Fr S95 M M1 → (∀ u, u < j → M1.2.2.1 95 u = -1) → ∃ M2, lp (st_X11_tidies k) (20, [.ref 89, .int (nI j)], M1) = lp (st_X11_tidies k) (43, [.ref 89, .int (nI 0)], M2) ∧ Fr S95 M M2 ∧ ∀ u, u < c → M2.2.2.1 95 u = -1 := by
  intro z
  induction z with
  | zero =>
    intro j hj M1 hF hu
    have hW1 := hF.Wd hW
    have e : j = c := by omega
    subst e
    have h7' : M1.2.2.1 89 7 = nI j := (hF.int (by simp [S95])).trans h7
    refine ⟨M1, ?_, hF, hu⟩
    refine (ge_X11_tidies_20 k 89 _ M1).trans ?_
    simp (disch := omega) only [T_X11_tidies_20, W_89 hW1, gd_true, fO, Nat.reduceLT, and_self, h7', nI_le_, Nat.le_refl, if_true]
    rfl
  | succ z ih =>
    intro j hj M1 hF hu
    have hW1 := hF.Wd hW
    have h7' : M1.2.2.1 89 7 = nI c := (hF.int (by simp [S95])).trans h7
    obtain ⟨M2, e2, r⟩ := ih (j + 1) (by omega) (wI M1 95 j (-1)) (hF.wI (show S95 95 j from rfl) _) (fun u h => by
      by_cases e : u = j
      · subst e
        simp [up2_if]
      · simp only [up2_if, true_and, e, if_false]
        exact hu u (by omega))
    refine ⟨M2, ?_, r⟩
    rw [← e2]
    have v : vp_in (nI j) 16384 := vp_nI (by omega) (by omega)
    refine (ge_X11_tidies_20 k 89 _ M1).trans ?_
    simp (disch := omega) only [T_X11_tidies_20, W_89 hW1, gd_true, fO, fA, ex_in, Nat.reduceLT, true_and, and_self, bnd_s, h7', nI_le_, v, nI_z, nI_1]
    rw [if_neg (by omega)]
variable {M : Mem} {c D : Nat} {S : Nat → Prop}
/-- one root marked -/
theorem mark_root (hW : Wd M) (hT : TbI c (M.2.2.1 90) (M.2.2.1 91) (M.2.2.1 92)) (hc : c ≤ 16384) (hS : ∀ i, i < c → S i → ∀ a, a < 20000 → (M.2.2.1 91 i = nI a ∨ M.2.2.1 92 i = nI a) → S a) {M1 : Mem} (hO : MkO c S M M1) (k : Nat) {x : Int32} (hx : NbR M c D x) (hxS : ∀ v, v < c → x = nI v → S v) : ∃ M2, f_X11_marks (D + 2 + k) 89 x M1 = some ((), M2) ∧ MkO c S M M2 ∧ (∀ i, M1.2.2.1 95 i ≠ -1 → M2.2.2.1 95 i ≠ -1) ∧ ∀ v, v < c → x = nI v → M2.2.2.1 95 v ≠ -1 := by
  have hW1 := hO.1.Wd hW
  have i0 : M1.2.2.1 90 = M.2.2.1 90 := hO.1.ints (by simp [S95])
  have i1 : M1.2.2.1 91 = M.2.2.1 91 := hO.1.ints (by simp [S95])
  have i2 : M1.2.2.1 92 = M.2.2.1 92 := hO.1.ints (by simp [S95])
  obtain ⟨v, h1, rfl, h3⟩ := hx.fr hO.1
  obtain ⟨M2, x1, x2, x3⟩ := rx_marks hc hS D k v M1 i1 i2 (hxS v h1 rfl) hW1 (by rw [i0, i1, i2]; exact hT) h1 h3
  refine ⟨M2, x1, hO.trans x2, x2.2.1, fun u hu e => ?_⟩
  rw [← (nI_eq (by omega) (by omega)).mp e]
  exact x3
theorem td_43 (hW : Wd M) (hT : TbI c (M.2.2.1 90) (M.2.2.1 91) (M.2.2.1 92)) (hc : c ≤ 16384) (hS : ∀ i, i < c → S i → ∀ a, a < 20000 → (M.2.2.1 91 i = nI a ∨ M.2.2.1 92 i = nI a) → S a) {h : Nat} (h6 : h ≤ 6) (h15 : M.2.2.1 89 15 = nI h) (hR : ∀ j, j < h → NbR M c D (M.2.2.1 98 j)) (hG : NbR M c D (M.2.2.1 89 16)) (hRS : ∀ j, j < h → ∀ v, v < c → M.2.2.1 98 j = nI v → S v) (hGS : ∀ v, v < c → M.2.2.1 89 16 = nI v → S v) (k : Nat) : ∀ z j, j + z = h → ∀ M1, MkO c S M M1 → (∀ u, u < j → ∀ v, v < c → M.2.2.1 98 u = nI v → M1.2.2.1 95 v ≠ -1) → ∃ M2, lp (st_X11_tidies (D + 3 + k)) (43, [.ref 89, .int (nI j)], M1) = lp (st_X11_tidies (D + 3 + k)) (77, [.ref 89, .int (nI 0)], M2) ∧ MkO c S M M2 ∧ (∀ u, u < h → ∀ v, v < c → M.2.2.1 98 u = nI v → M2.2.2.1 95 v ≠ -1) ∧ ∀ v, v < c → M.2.2.1 89 16 = nI v → M2.2.2.1 95 v ≠ -1 := by
  intro z
  induction z with
  | zero =>
    intro j hj M1 hO hu
    have hW1 := hO.1.Wd hW
    have e : j = h := by omega
    subst e
    have e15 : M1.2.2.1 89 15 = nI j := (hO.1.int (by simp [S95])).trans h15
    have e16 : M1.2.2.1 89 16 = M.2.2.1 89 16 := hO.1.int (by simp [S95])
    obtain ⟨M2, x1, x2, x3, x4⟩ := mark_root hW hT hc hS hO k hG hGS
    refine ⟨M2, ?_, x2, fun u hu' v hv ev => x3 v (hu u hu' v hv ev), x4⟩
    rw [show D + 3 + k = (D + 2 + k) + 1 by omega]
    refine (ge_X11_tidies_43 (D + 2 + k + 1) 89 _ M1).trans ?_
    simp (disch := omega) only [T_X11_tidies_43, W_89 hW1, gd_true, fO, Nat.reduceLT, and_self, e15, nI_le_, Nat.le_refl, if_true, cal_s, e16, x1, bnd2_s]
    rfl
  | succ z ih =>
    intro j hj M1 hO hu
    have hW1 := hO.1.Wd hW
    have e15 : M1.2.2.1 89 15 = nI h := (hO.1.int (by simp [S95])).trans h15
    have e98 : M1.2.2.1 98 j = M.2.2.1 98 j := hO.1.int (by simp [S95])
    obtain ⟨M2, x1, x2, x3, x4⟩ := mark_root hW hT hc hS hO k (hR j (by omega)) (hRS j (by omega))
    obtain ⟨M3, y1, y2⟩ := ih (j + 1) (by omega) M2 x2 (fun u hu' v hv ev => by
      by_cases e : u = j
      · subst e
        exact x4 v hv ev
      · exact x3 v (hu u (by omega) v hv ev))
    refine ⟨M3, ?_, y2⟩
    rw [← y1]
    have v6 : vp_in (nI j) 6 := vp_nI (by omega) (by omega)
    rw [show D + 3 + k = (D + 2 + k) + 1 by omega]
    refine (ge_X11_tidies_43 (D + 2 + k + 1) 89 _ M1).trans ?_
    simp (disch := omega) only [T_X11_tidies_43, W_89 hW1, gd_true, fO, fA, ex_in, Nat.reduceLT, true_and, and_self, bnd_s, e15, nI_le_, v6, nI_z, cal_s, e98, x1, bnd2_s, nI_1]
    rw [if_neg (by omega)]
end TA
