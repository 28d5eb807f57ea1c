/-! TIDIES: the table made anew -/
def SCl (a k : Nat) : Prop := (a = 89 ∧ k = 7) ∨ a = 94
section RB
variable {M : Mem}
theorem clears_loop (hW : Wd M) (k : Nat) : ∀ z j, j + z = 1024 → ∀ M1, Fr SCl M M1 → M1.2.2.1 89 7 = 0 → (∀ u, u < j → M1.2.2.1 94 u = -1) → ∃ M2, lp (st_X11_clears k) (7, [.ref 89, .int (nI j)], M1) = some ((), M2) ∧ Fr SCl M M2 ∧ M2.2.2.1 89 7 = 0 ∧ ∀ u, u < 1024 → M2.2.2.1 94 u = -1 := by
  intro z
  induction z with
  | zero =>
    intro j hj M1 hF h7 hu
    have e : j = 1024 := by omega
    subst e
    refine ⟨M1, ?_, hF, h7, hu⟩
    refine (ge_X11_clears_7 k 89 _ M1).trans ?_
    simp only [T_X11_clears_7, show ((1024 : Int32) ≤ nI 1024) = True from eq_true (by decide), if_true]
  | succ z ih =>
    intro j hj M1 hF h7 hu
    have hW1 := hF.Wd hW
    obtain ⟨M2, e2, r⟩ := ih (j + 1) (by omega) (wI M1 94 j (-1)) (hF.wI (Or.inr rfl) _) h7 (fun u h => by
      by_cases e : u = j
      · subst e
        simp [up2_if]
      · simp only [up2_if, true_and, e, if_false]
        exact hu u (by omega))
    refine ⟨M2, ?_, r⟩
    rw [← e2]
    have v : vp_in (nI j) 1024 := vp_nI (by omega) (by omega)
    refine (ge_X11_clears_7 k 89 _ M1).trans ?_
    simp (disch := omega) only [T_X11_clears_7, show (1024 : Int32) = nI 1024 from rfl, nI_le_, W_89 hW1, gd_true, fO, fA, ex_in, Nat.reduceLT, true_and, and_self, bnd_s, v, nI_z, nI_1]
    rw [if_neg (by omega)]
theorem rx_clears (hW : Wd M) (k : Nat) : ∃ M1, f_X11_clears k 89 M = some ((), M1) ∧ Fr SCl M M1 ∧ TabR M1 0 := by
  obtain ⟨M1, e, hF, h7, hu⟩ := clears_loop hW k 1024 0 (by omega) (wI M 89 7 0) (Fr.refl.wI (Or.inl ⟨rfl, rfl⟩) _) rfl (fun u hu => by omega)
  refine ⟨M1, ?_, hF, h7, by omega, fun i hi => by omega, fun i j hi => by omega, fun h hh => hu h hh, fun i hi => by omega⟩
  refine (ge_X11_clears_0 k 89 M).trans ?_
  simp only [T_X11_clears_0, W_89 hW, gd_true, fO, Nat.reduceLT, and_self]
  exact e
/-- so far: the new table up to c, the old one from f on, the new numbers of what was marked -/
def RbI (kb lb rb g : Nat → Int32) (f c : Nat) (M : Mem) : Prop := TabR M c ∧ c ≤ f ∧ (∀ i, f ≤ i → M.2.2.1 90 i = kb i ∧ M.2.2.1 91 i = lb i ∧ M.2.2.1 92 i = rb i ∧ M.2.2.1 95 i = g i) ∧ (∀ i, i < f → g i ≠ -1 → ∃ v, v < c ∧ M.2.2.1 95 i = nI v ∧ dR M v = dT kb lb rb i) ∧ ∀ v, v < c → ∃ i, i < f ∧ g i ≠ -1 ∧ dR M v = dT kb lb rb i
def SRb (a k : Nat) : Prop := SR a k ∨ a = 95
set_option maxHeartbeats 8000000 in
theorem rebuild_step (hW : Wd M) {kb lb rb g : Nat → Int32} {w f c : Nat} (hw : w ≤ 16384) (hB : TbI w kb lb rb) (hf : f < w) (hg : g f ≠ -1 → ∀ a b, a < 20000 → b < 20000 → lb f = nI a → rb f = nI b → g a ≠ -1 ∧ g b ≠ -1) (hI : RbI kb lb rb g f c M) (k : Nat) : ∃ c1 M1, lp (st_X11_tidies (k + 1)) (207, [.ref 89, .int (nI w), .int (nI f)], M) = lp (st_X11_tidies (k + 1)) (207, [.ref 89, .int (nI w), .int (nI (f + 1))], M1) ∧ Fr SRb M M1 ∧ RbI kb lb rb g (f + 1) c1 M1 := by
  obtain ⟨hT, hcf, hold, hnew, hall⟩ := hI
  obtain ⟨o0, o1, o2, o5⟩ := hold f (Nat.le_refl _)
  have hf2 : f < 16384 := by omega
  have vf : vp_in (nI f) 16384 := vp_nI hf2 (by omega)
  by_cases hgf : g f = -1
  · refine ⟨c, M, ?_, Fr.refl, hT, by omega, fun i hi => hold i (by omega), fun i hi hgi => ?_, fun v hv => ?_⟩
    · refine (ge_X11_tidies_207 (k + 1) 89 _ _ M).trans ?_
      simp (disch := omega) only [T_X11_tidies_207, nI_le_, W_89 hW, gd_true, fO, fA, ex_in, Nat.reduceLT, true_and, and_self, bnd_s, vf, nI_z, o5, hgf, if_true, nI_1]
      rw [if_neg (by omega)]
    · have : i ≠ f := fun q => hgi (q ▸ hgf)
      exact hnew i (by omega) hgi
    · obtain ⟨i, x, y, z⟩ := hall v hv
      exact ⟨i, by omega, y, z⟩
  · -- the new one: what it is made of
    have key : ∃ x y, FOk M c (kb f) x y (dT kb lb rb f) ∧ lp (st_X11_tidies (k + 1)) (207, [.ref 89, .int (nI w), .int (nI f)], M) = bnd2 (f_X11_formula k 89 (kb f) x y M) none (fun v M30 => gd (fA M30 95 1 (nI f)) none (lp (st_X11_tidies (k + 1)) (207, [.ref 89, .int (nI w), .int (nI (f + 1))], wI M30 95 f v))) := by
      rcases hB f hf with ⟨j, hj, e1, e2, e3⟩ | ⟨j, a, b, h1, h2, ha, hb, e1, e2, e3⟩
      · refine ⟨-1, -1, Or.inl ⟨j, hj, e1, rfl, rfl, dT_leaf hB (by omega) hf hj e1⟩, ?_⟩
        refine (ge_X11_tidies_207 (k + 1) 89 _ _ M).trans ?_
        simp (disch := omega) only [T_X11_tidies_207, nI_le_, W_89 hW, gd_true, fO, fA, ex_in, Nat.reduceLT, true_and, and_self, bnd_s, vf, nI_z, o5, hgf, if_false, o0, o1, e2, if_true]
        rw [if_neg (by omega)]
        refine (ge_X11_tidies_259 (k + 1) 89 _ _ _ _ _ _ _ M).trans ?_
        simp (disch := omega) only [T_X11_tidies_259, W_89 hW, gd_true, fO, fA, ex_in, Nat.reduceLT, true_and, and_self, bnd_s, vf, nI_z, o2, e3, if_true, cal_s, nI_1]
      · obtain ⟨ga, gb⟩ := hg hgf a b (by omega) (by omega) e2 e3
        obtain ⟨va, a1, a2, a3⟩ := hnew a ha ga
        obtain ⟨vb, b1, b2, b3⟩ := hnew b hb gb
        refine ⟨nI va, nI vb, Or.inr ⟨j, va, vb, h1, h2, a1, b1, e1, rfl, rfl, ?_⟩, ?_⟩
        · rw [a3, b3]
          exact dT_node hB (by omega) hf h1 h2 e1 e2 e3 ha hb
        · have vva : vp_in (nI a) 16384 := vp_nI (by omega) (by omega)
          have vvb : vp_in (nI b) 16384 := vp_nI (by omega) (by omega)
          refine (ge_X11_tidies_207 (k + 1) 89 _ _ M).trans ?_
          simp (disch := omega) only [T_X11_tidies_207, nI_le_, W_89 hW, gd_true, fO, fA, ex_in, Nat.reduceLT, true_and, and_self, bnd_s, vf, nI_z, o5, hgf, if_false, o0, o1, e2, nI_ne_m1, vva, a2]
          rw [if_neg (by omega)]
          refine (ge_X11_tidies_259 (k + 1) 89 _ _ _ _ _ _ _ M).trans ?_
          simp (disch := omega) only [T_X11_tidies_259, W_89 hW, gd_true, fO, fA, ex_in, Nat.reduceLT, true_and, and_self, bnd_s, vf, nI_z, o2, e3, nI_ne_m1, if_false, vvb, b2, cal_s, nI_1]
    obtain ⟨x, y, ho, e⟩ := key
    obtain ⟨v, c1, M1, g1, g2, g3, g4, g5, g6, g7, g8, g9, g10⟩ := r_formula hW hT k ho (Or.inl (by omega))
    have hW1 := g8.Wd hW
    have rest : ∀ i, c < i → M1.2.2.1 90 i = M.2.2.1 90 i ∧ M1.2.2.1 91 i = M.2.2.1 91 i ∧ M1.2.2.1 92 i = M.2.2.1 92 i := by
      intro i hi
      rcases g10 with rfl | ⟨h, rfl⟩
      · exact ⟨rfl, rfl, rfl⟩
      · have : ¬ i = c := by omega
        simp only [up2_if, Nat.reduceEqDiff, false_and, if_false, true_and, this]
    have i95 : M1.2.2.1 95 = M.2.2.1 95 := g8.ints (by simp [SR])
    refine ⟨c1, wI M1 95 f (nI v), ?_, (g8.mono (T := SRb) (fun a k h => Or.inl h)).wI (Or.inr rfl) _, g5, by omega, fun i hi => ?_, fun i hi hgi => ?_, fun u hu => ?_⟩
    · rw [e, g1, bnd2_s, gd_pos]
      refine ⟨by rw [hW1.1]; decide, 16384, s_95 hW1, vf⟩
    · obtain ⟨p0, p1, p2, p5⟩ := hold i (by omega)
      obtain ⟨q0, q1, q2⟩ := rest i (by omega)
      have ne : ¬ i = f := by omega
      refine ⟨q0.trans p0, q1.trans p1, q2.trans p2, ?_⟩
      simp only [up2_if, true_and, ne, if_false]
      rw [i95]
      exact p5
    · by_cases ei : i = f
      · subst ei
        exact ⟨v, g2, by simp [up2_if], g6⟩
      · obtain ⟨u, x1, x2, x3⟩ := hnew i (by omega) hgi
        refine ⟨u, by omega, ?_, (g7 u x1).trans x3⟩
        simp only [up2_if, true_and, ei, if_false]
        rw [i95]
        exact x2
    · by_cases eu : u < c
      · obtain ⟨i, x1, x2, x3⟩ := hall u eu
        exact ⟨i, by omega, x2, (g7 u eu).trans x3⟩
      · by_cases hvc : v < c
        · have := (g9 ⟨v, hvc, (g7 v hvc).symm.trans g6⟩).2
          omega
        · have hv : v = u := by omega
          subst hv
          exact ⟨f, by omega, hgf, g6⟩
theorem rebuild_loop {kb lb rb g : Nat → Int32} {w : Nat} (hw : w ≤ 16384) (hB : TbI w kb lb rb) (hg : ∀ f, f < w → g f ≠ -1 → ∀ a b, a < 20000 → b < 20000 → lb f = nI a → rb f = nI b → g a ≠ -1 ∧ g b ≠ -1) (k : Nat) : ∀ z f, f + z = w → ∀ c M, Wd M → RbI kb lb rb g f c M → ∃ c1 M1, lp (st_X11_tidies (k + 1)) (207, [.ref 89, .int (nI w), .int (nI f)], M) = lp (st_X11_tidies (k + 1)) (296, [.ref 89, .int (nI 0)], M1) ∧ Fr SRb M M1 ∧ RbI kb lb rb g w c1 M1 := by
  intro z
  induction z with
  | zero =>
    intro f hf c M hW hI
    have e : f = w := by omega
    subst e
    refine ⟨c, M, ?_, Fr.refl, hI⟩
    refine (ge_X11_tidies_207 (k + 1) 89 _ _ M).trans ?_
    simp (disch := omega) only [T_X11_tidies_207, nI_le_, Nat.le_refl, if_true]
    rfl
  | succ z ih =>
    intro f hf c M hW hI
    obtain ⟨c1, M1, e1, F1, I1⟩ := rebuild_step hW hw hB (f := f) (by omega) (hg f (by omega)) hI k
    obtain ⟨c2, M2, e2, F2, I2⟩ := ih (f + 1) (by omega) c1 M1 (F1.Wd hW) I1
    exact ⟨c2, M2, e1.trans e2, F1.trans F2, I2⟩
end RB
