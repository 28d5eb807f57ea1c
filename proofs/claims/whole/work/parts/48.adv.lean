/-! THE CLASS's advance: the next word or sign -/
noncomputable def nxt (b : Nat → Nat) (n p : Nat) : Nat := if tq b n p = n then n else if te b n p = tq b n p then tq b n p + 1 else te b n p
noncomputable def cod (b : Nat → Nat) (n p : Nat) : Int32 := if tq b n p = n then -3 else if te b n p = tq b n p then -2 else if te b n p - tq b n p ≤ 5 then wcd b (tq b n p) (te b n p - tq b n p) else -1
noncomputable def pkd (b : Nat → Nat) (n p : Nat) : Nat := if tq b n p = n then 0 else if te b n p = tq b n p then b (tq b n p) else pkb (fun i => b (tq b n p + i)) (min 5 (te b n p - tq b n p))
theorem nI_sb {q t : Nat} (h : q + t < 1000000) : nI (q + t) - nI q = nI t := by
  have e1 : (nI (q + t)).toInt = ((q + t : Nat) : Int) := nI_toInt (by omega)
  have e2 : (nI q).toInt = (q : Int) := nI_toInt (by omega)
  have e3 : (nI t).toInt = (t : Int) := nI_toInt (by omega)
  apply Int32.toInt_inj.mp
  rw [fb_subI (by rw [e1, e2]; omega) (by rw [e1, e2]; omega), e1, e2, e3]
  omega
section AV
variable {M : Mem} {b : Nat → Nat} {n : Nat}
set_option maxHeartbeats 2000000 in
theorem adv_blank (hW : Wd M) (hX : TxC M b n) (k : Nat) : ∀ z p, p + z = n → ∀ M1, Fr SA M M1 → M1.2.2.1 14 11 = nI p → ∃ M2, lp (st_X6_advance k) (0, [.ref 14], M1) = lp (st_X6_advance k) (38, [.ref 14], M2) ∧ Fr SA M M2 ∧ M2.2.2.1 14 11 = nI (skp b z p) := by
  intro z
  induction z with
  | zero =>
    intro p hp M1 hF h11
    have hW1 := hF.Wd hW
    have hX1 := hX.fr hF (by simp [SA]) (by simp [SA]) (by simp [SA])
    have h6 := hX.2.1
    refine ⟨M1, ?_, hF, h11⟩
    refine (ge_X6_advance_0 k 14 M1).trans ?_
    simp (disch := omega) only [T_X6_advance_0, W_14 hW1, gd_true, fO, fA, ex_in, bnd_s, bnd2_s, cal_s, Nat.reduceLT, true_and, and_true, and_self, nI_z, vp_iff, up2_if, Nat.reduceEqDiff, false_and, and_false, if_false, if_true, nI_1, nI_le_, nI_lt_, nI_lt0, nI_eq_, nI_add, hX1.1, h11]
    rw [if_pos (by omega)]
  | succ z ih =>
    intro p hp M1 hF h11
    have hW1 := hF.Wd hW
    have hX1 := hX.fr hF (by simp [SA]) (by simp [SA]) (by simp [SA])
    have h6 := hX.2.1
    have hpn : p < n := by omega
    have hb := hX1.2.2.2 p hpn
    by_cases h : b p = 32
    · obtain ⟨M2, e, r⟩ := ih (p + 1) (by omega) (wI M1 14 11 (nI (p + 1))) (hF.wI (by simp [SA]) _) rfl
      refine ⟨M2, ?_, ?_⟩
      · rw [← e]
        refine (ge_X6_advance_0 k 14 M1).trans ?_
        simp (disch := omega) only [T_X6_advance_0, W_14 hW1, gd_true, fO, fA, ex_in, bnd_s, bnd2_s, cal_s, Nat.reduceLT, true_and, and_true, and_self, nI_z, vp_iff, up2_if, Nat.reduceEqDiff, false_and, and_false, if_false, if_true, nI_1, nI_le_, nI_lt_, nI_lt0, nI_eq_, nI_add, hX1.1, h11, hb.2, show (32 : Int32) = nI 32 from rfl, h]
        rw [if_neg (by omega), gd_pos (by omega)]
      · unfold skp
        rw [if_pos h]
        exact r
    · refine ⟨M1, ?_, hF, ?_⟩
      · refine (ge_X6_advance_0 k 14 M1).trans ?_
        simp (disch := omega) only [T_X6_advance_0, W_14 hW1, gd_true, fO, fA, ex_in, bnd_s, bnd2_s, cal_s, Nat.reduceLT, true_and, and_true, and_self, nI_z, vp_iff, up2_if, Nat.reduceEqDiff, false_and, and_false, if_false, if_true, nI_1, nI_le_, nI_lt_, nI_lt0, nI_eq_, nI_add, hX1.1, h11, hb.2, show (32 : Int32) = nI 32 from rfl, h]
        rw [if_neg (by omega), gd_pos (by omega)]
      · unfold skp
        rw [if_neg h]
        exact h11
set_option maxHeartbeats 2000000 in
theorem adv_letters (hW : Wd M) (hX : TxC M b n) (k : Nat) {q : Nat} : ∀ z t, q + t + z = n → ∀ M1, Fr SA M M1 → M1.2.2.1 14 11 = nI (q + t) → M1.2.2.1 14 12 = nI q → M1.2.2.2.1 14 14 = lN (pkb (fun i => b (q + i)) (min 5 t)) → ∃ M2, lp (st_X6_advance (k + 1)) (123, [.ref 14], M1) = lp (st_X6_advance (k + 1)) (197, [.ref 14], M2) ∧ Fr SA M M2 ∧ M2.2.2.1 14 11 = nI (lts b z (q + t)) ∧ M2.2.2.1 14 12 = nI q ∧ M2.2.2.2.1 14 14 = lN (pkb (fun i => b (q + i)) (min 5 (lts b z (q + t) - q))) := by
  intro z
  induction z with
  | zero =>
    intro t ht M1 hF h11 h12 h14
    have hW1 := hF.Wd hW
    have hX1 := hX.fr hF (by simp [SA]) (by simp [SA]) (by simp [SA])
    have h6 := hX.2.1
    refine ⟨M1, ?_, hF, h11, h12, ?_⟩
    · refine (ge_X6_advance_123 (k + 1) 14 M1).trans ?_
      simp (disch := omega) only [T_X6_advance_123, W_14 hW1, gd_true, fO, fA, ex_in, bnd_s, bnd2_s, cal_s, Nat.reduceLT, true_and, and_true, and_self, nI_z, vp_iff, up2_if, Nat.reduceEqDiff, false_and, and_false, if_false, if_true, nI_1, nI_le_, nI_lt_, nI_lt0, nI_eq_, nI_add, hX1.1, h11]
      rw [if_pos (by omega)]
    · rw [h14]
      unfold lts
      rw [show q + t - q = t by omega]
  | succ z ih =>
    intro t ht M1 hF h11 h12 h14
    have hW1 := hF.Wd hW
    have hX1 := hX.fr hF (by simp [SA]) (by simp [SA]) (by simp [SA])
    have h6 := hX.2.1
    have hpn : q + t < n := by omega
    have hb := hX1.2.2.2 (q + t) hpn
    by_cases h : isLt (b (q + t))
    · have el := (c_isLetter k (M := M1) hb.1).1 h
      have hsub : nI (q + t) - nI q = nI t := nI_sb (by omega)
      by_cases h5 : 5 ≤ t
      · obtain ⟨M2, e, r1, r2, r3, r4⟩ := ih (t + 1) (by omega) (wI M1 14 11 (nI (q + t + 1))) (hF.wI (by simp [SA]) _) rfl h12 (by
          show M1.2.2.2.1 14 14 = _
          rw [h14, Nat.min_eq_left h5, Nat.min_eq_left (by omega)])
        refine ⟨M2, ?_, ?_⟩
        · rw [← e]
          refine (ge_X6_advance_123 (k + 1) 14 M1).trans ?_
          simp (disch := omega) only [T_X6_advance_123, W_14 hW1, gd_true, fO, fA, ex_in, bnd_s, bnd2_s, cal_s, Nat.reduceLT, true_and, and_true, and_self, nI_z, vp_iff, up2_if, Nat.reduceEqDiff, false_and, and_false, if_false, if_true, nI_1, nI_le_, nI_lt_, nI_lt0, nI_eq_, nI_add, hX1.1, h11, hb.2, el, show ((1 : Int32) = 0) = False from eq_false (by decide), h12, hsub, show (5 : Int32) = nI 5 from rfl]
          rw [if_neg (by omega), gd_pos (by omega), if_pos h5]
        · unfold lts
          rw [if_pos h]
          exact ⟨r1, r2, r3, r4⟩
      · obtain ⟨M2, e, r1, r2, r3, r4⟩ := ih (t + 1) (by omega) (wI (wJ M1 14 14 (lN (pkb (fun i => b (q + i)) (min 5 (t + 1))))) 14 11 (nI (q + t + 1))) ((hF.wJ (by simp [SA]) _).wI (by simp [SA]) _) rfl h12 rfl
        refine ⟨M2, ?_, ?_⟩
        · rw [← e]
          refine (ge_X6_advance_123 (k + 1) 14 M1).trans ?_
          have e14 : M1.2.2.2.1 14 14 = lN (pkb (fun i => b (q + i)) t) := by rw [h14, Nat.min_eq_right (by omega)]
          simp (disch := omega) only [T_X6_advance_123, W_14 hW1, gd_true, fO, fA, ex_in, bnd_s, bnd2_s, cal_s, Nat.reduceLT, true_and, and_true, and_self, nI_z, vp_iff, up2_if, Nat.reduceEqDiff, false_and, and_false, if_false, if_true, nI_1, nI_le_, nI_lt_, nI_lt0, nI_eq_, nI_add, hX1.1, h11, hb.2, el, show ((1 : Int32) = 0) = False from eq_false (by decide), h12, hsub, show (5 : Int32) = nI 5 from rfl, e14, pkb_or hb.1]
          rw [if_neg (by omega), gd_pos (by omega), if_neg h5, gd_pos (by omega), Nat.min_eq_right (by omega)]
          rfl
        · unfold lts
          rw [if_pos h]
          exact ⟨r1, r2, r3, r4⟩
    · have el := (c_isLetter k (M := M1) hb.1).2 h
      refine ⟨M1, ?_, hF, ?_, h12, ?_⟩
      · refine (ge_X6_advance_123 (k + 1) 14 M1).trans ?_
        simp (disch := omega) only [T_X6_advance_123, W_14 hW1, gd_true, fO, fA, ex_in, bnd_s, bnd2_s, cal_s, Nat.reduceLT, true_and, and_true, and_self, nI_z, vp_iff, up2_if, Nat.reduceEqDiff, false_and, and_false, if_false, if_true, nI_1, nI_le_, nI_lt_, nI_lt0, nI_eq_, nI_add, hX1.1, h11, hb.2, el]
        rw [if_neg (by omega), gd_pos (by omega)]
      · unfold lts
        rw [if_neg h]
        exact h11
      · rw [h14]
        unfold lts
        rw [if_neg h, show q + t - q = t by omega]
set_option maxHeartbeats 4000000 in
/-- ADVANCE: the next word or sign of a text, from place p on -/
theorem c_advance (hW : Wd M) (hX : TxC M b n) (k : Nat) {p : Nat} (hp : p ≤ n) (h11 : M.2.2.1 14 11 = nI p) : ∃ M1, f_X6_advance (k + 1) 14 M = some ((), M1) ∧ Fr SA M M1 ∧ M1.2.2.1 14 12 = nI (tq b n p) ∧ M1.2.2.1 14 11 = nI (nxt b n p) ∧ M1.2.2.1 14 13 = cod b n p ∧ M1.2.2.2.1 14 14 = lN (pkd b n p) := by
  have h6 := hX.2.1
  obtain ⟨M1, e1, hF, hq⟩ := adv_blank hW hX (k + 1) (n - p) p (by omega) M Fr.refl h11
  have hW1 := hF.Wd hW
  have hX1 := hX.fr hF (by simp [SA]) (by simp [SA]) (by simp [SA])
  have sk := skp_is b (n - p) p
  have e0 : f_X6_advance (k + 1) 14 M = lp (st_X6_advance (k + 1)) (38, [.ref 14], M1) := e1
  rw [e0]
  unfold nxt cod pkd
  by_cases hend : tq b n p = n
  · refine ⟨wI (wI (wJ (wI M1 14 12 (nI n)) 14 14 0) 14 12 (nI n)) 14 13 (-3), ?_, (((hF.wI (by simp [SA]) _).wJ (by simp [SA]) _).wI (by simp [SA]) _).wI (by simp [SA]) _, ?_, ?_, ?_, ?_⟩
    · refine (ge_X6_advance_38 (k + 1) 14 M1).trans ?_
      have hq2 : M1.2.2.1 14 11 = nI n := by rw [hq]; exact congrArg nI hend
      simp (disch := omega) only [T_X6_advance_38, W_14 hW1, gd_true, fO, fA, ex_in, bnd_s, bnd2_s, cal_s, Nat.reduceLT, true_and, and_true, and_self, nI_z, vp_iff, up2_if, Nat.reduceEqDiff, false_and, and_false, if_false, if_true, nI_1, nI_le_, nI_lt_, nI_lt0, nI_eq_, nI_add, hX1.1, hq2, Nat.lt_irrefl]
    · rw [hend]
      rfl
    · rw [if_pos hend]
      show M1.2.2.1 14 11 = _
      rw [hq]
      exact congrArg nI hend
    · rw [if_pos hend]
      rfl
    · rw [if_pos hend]
      rfl
  · have hlt : tq b n p < n := by
      have := sk.2.1
      have : tq b n p ≤ n := by
        show skp b (n - p) p ≤ n
        omega
      omega
    have hb := hX1.2.2.2 (tq b n p) hlt
    have ls := lts_is b (n - tq b n p) (tq b n p)
    by_cases hL : isLt (b (tq b n p))
    · have el := (c_isLetter k (M := wJ (wI M1 14 12 (nI (tq b n p))) 14 14 0) hb.1).1 hL
      have hte : tq b n p < te b n p := by
        have := ls.1
        by_cases h : te b n p = tq b n p
        · have := ls.2.2.1 (by show te b n p < _; omega)
          exact (this (by rw [show lts b (n - tq b n p) (tq b n p) = tq b n p from h]; exact hL)).elim
        · have : tq b n p ≤ te b n p := ls.1
          omega
      obtain ⟨M2, e2, g1, g2, g3, g4⟩ := adv_letters hW hX k (q := tq b n p) (n - tq b n p) 0 (by omega) (wJ (wI M1 14 12 (nI (tq b n p))) 14 14 0) ((hF.wI (by simp [SA]) _).wJ (by simp [SA]) _) hq rfl rfl
      have hW2 := g1.Wd hW
      have hX2 := hX.fr g1 (by simp [SA]) (by simp [SA]) (by simp [SA])
      have s1 : lp (st_X6_advance (k + 1)) (38, [.ref 14], M1) = lp (st_X6_advance (k + 1)) (197, [.ref 14], M2) := by
        rw [← e2]
        refine (ge_X6_advance_38 (k + 1) 14 M1).trans ?_
        have hq' : M1.2.2.1 14 11 = nI (tq b n p) := hq
        simp (disch := omega) only [T_X6_advance_38, W_14 hW1, gd_true, fO, fA, ex_in, bnd_s, bnd2_s, cal_s, Nat.reduceLT, true_and, and_true, and_self, nI_z, vp_iff, up2_if, Nat.reduceEqDiff, false_and, and_false, if_false, if_true, nI_1, nI_le_, nI_lt_, nI_lt0, nI_eq_, nI_add, hX1.1, hq', hb.2, el, show ((1 : Int32) = 0) = False from eq_false (by decide)]
        rw [if_pos hlt, gd_pos (by omega)]
      have hsub : nI (te b n p) - nI (tq b n p) = nI (te b n p - tq b n p) := by
        have hte7 : te b n p ≤ n := by
          have := ls.2.1
          show lts b (n - tq b n p) (tq b n p) ≤ n
          omega
        have := nI_sb (q := tq b n p) (t := te b n p - tq b n p) (by omega)
        rwa [show tq b n p + (te b n p - tq b n p) = te b n p by omega] at this
      have g2' : M2.2.2.1 14 11 = nI (te b n p) := g2
      have g4' : M2.2.2.2.1 14 14 = lN (pkb (fun i => b (tq b n p + i)) (min 5 (te b n p - tq b n p))) := g4
      have hte6 : te b n p ≤ n := by
        have := ls.2.1
        show lts b (n - tq b n p) (tq b n p) ≤ n
        omega
      by_cases h5 : te b n p - tq b n p ≤ 5
      · have ec := c_codeOf (b := b) hW2 hX2.2.2.1 k (q := tq b n p) (c := te b n p - tq b n p) h5 (fun i hi => ls.2.2.2 (tq b n p + i) (by omega) (by show _ < te b n p; omega))
        rw [Nat.min_eq_right h5] at g4'
        refine ⟨wI M2 14 13 (wcd b (tq b n p) (te b n p - tq b n p)), ?_, g1.wI (by simp [SA]) _, g3, ?_, ?_, ?_⟩
        · rw [s1]
          refine (ge_X6_advance_197 (k + 1) 14 M2).trans ?_
          simp (disch := omega) only [T_X6_advance_197, W_14 hW2, gd_true, fO, fA, ex_in, bnd_s, bnd2_s, cal_s, Nat.reduceLT, true_and, and_true, and_self, nI_z, vp_iff, up2_if, Nat.reduceEqDiff, false_and, and_false, if_false, if_true, nI_1, nI_le_, nI_lt_, nI_lt0, nI_eq_, nI_add, g2', g3, hsub, show (5 : Int32) = nI 5 from rfl, g4', ec]
          rw [if_pos h5]
        · rw [if_neg hend, if_neg (by omega)]
          exact g2'
        · rw [if_neg hend, if_neg (by omega), if_pos h5]
          rfl
        · rw [if_neg hend, if_neg (by omega), Nat.min_eq_right h5]
          exact g4'
      · refine ⟨wI M2 14 13 (-1), ?_, g1.wI (by simp [SA]) _, g3, ?_, ?_, ?_⟩
        · rw [s1]
          refine (ge_X6_advance_197 (k + 1) 14 M2).trans ?_
          simp (disch := omega) only [T_X6_advance_197, W_14 hW2, gd_true, fO, fA, ex_in, bnd_s, bnd2_s, cal_s, Nat.reduceLT, true_and, and_true, and_self, nI_z, vp_iff, up2_if, Nat.reduceEqDiff, false_and, and_false, if_false, if_true, nI_1, nI_le_, nI_lt_, nI_lt0, nI_eq_, nI_add, g2', g3, hsub, show (5 : Int32) = nI 5 from rfl]
          rw [if_neg h5]
        · rw [if_neg hend, if_neg (by omega)]
          exact g2'
        · rw [if_neg hend, if_neg (by omega), if_neg h5]
          rfl
        · rw [if_neg hend, if_neg (by omega)]
          exact g4'
    · have el := (c_isLetter k (M := wJ (wI M1 14 12 (nI (tq b n p))) 14 14 0) hb.1).2 hL
      have hte : te b n p = tq b n p := by
        by_cases h : te b n p = tq b n p
        · exact h
        · have : tq b n p ≤ te b n p := ls.1
          exact (hL (ls.2.2.2 (tq b n p) (Nat.le_refl _) (by show _ < te b n p; omega))).elim
      have hq' : M1.2.2.1 14 11 = nI (tq b n p) := hq
      refine ⟨wI (wI (wJ (wJ (wI M1 14 12 (nI (tq b n p))) 14 14 0) 14 14 (lN (b (tq b n p)))) 14 11 (nI (tq b n p + 1))) 14 13 (-2), ?_, ((((hF.wI (by simp [SA]) _).wJ (by simp [SA]) _).wJ (by simp [SA]) _).wI (by simp [SA]) _).wI (by simp [SA]) _, rfl, ?_, ?_, ?_⟩
      · refine (ge_X6_advance_38 (k + 1) 14 M1).trans ?_
        simp (disch := omega) only [T_X6_advance_38, W_14 hW1, gd_true, fO, fA, ex_in, bnd_s, bnd2_s, cal_s, Nat.reduceLT, true_and, and_true, and_self, nI_z, vp_iff, up2_if, Nat.reduceEqDiff, false_and, and_false, if_false, if_true, nI_1, nI_le_, nI_lt_, nI_lt0, nI_eq_, nI_add, hX1.1, hq', hb.2, el, nI_l]
        rw [if_pos hlt, gd_pos (by omega), gd_pos (by omega)]
      · rw [if_neg hend, if_pos hte]
        rfl
      · rw [if_neg hend, if_pos hte]
        rfl
      · rw [if_neg hend, if_pos hte]
        rfl
end AV
