/-! THE CLASS's readFormula -/
section RFC
variable {M : Mem} {b : Nat → Nat} {n : Nat}
theorem c_fail (hW : Wd M) (k : Nat) (x y : Int32) : f_X6_fail k 14 x y M = some (0, wI (wI M 14 17 x) 14 18 y) := by
  unfold f_X6_fail b_X6_fail
  simp only [T_X6_fail_0, W_14 hW, gd_true, fO, fA, ex_in, bnd_s, bnd2_s, cal_s, Nat.reduceLT, true_and, and_true, and_self, nI_z, vp_iff, up2_if, Nat.reduceEqDiff, false_and, and_false, if_false, if_true, nI_1, nI_le_, nI_lt_, nI_lt0, nI_eq_, nI_add]
def SRF (a k : Nat) : Prop := (a = 14 ∧ (k = 11 ∨ k = 12 ∨ k = 13 ∨ k = 14 ∨ k = 17 ∨ k = 18)) ∨ a = 20
theorem SA_SRF : ∀ a k, SA a k → SRF a k := fun a k h => Or.inl ⟨h.1, by have := h.2; omega⟩
/-- what the loop of words comes to -/
def RdEnd (M : Mem) (k w o nots : Nat) (r : (Nat × Nat) ⊕ (List Nat × Nat)) : Prop := match r with
  | .inl e => ∃ M1, lp (st_X6_readFormula (k + 2)) (6, [.ref 14, .int (nI o), .int (nI nots), .int (nI w)], M) = some (-1, M1) ∧ Fr SRF M M1 ∧ M1.2.2.1 14 17 = nI e.1 ∧ M1.2.2.1 14 18 = nI e.2
  | .inr q => ∃ M1, lp (st_X6_readFormula (k + 2)) (6, [.ref 14, .int (nI o), .int (nI nots), .int (nI w)], M) = lp (st_X6_readFormula (k + 2)) (114, [.ref 14, .int (nI (nots + q.1.count 12)), .int (nI (w + q.1.length))], M1) ∧ Fr SRF M M1 ∧ M1.2.2.1 14 17 = M.2.2.1 14 17 ∧ M1.2.2.1 14 18 = M.2.2.1 14 18 ∧ M1.2.2.1 14 11 = nI q.2 ∧ (∀ j, j < w → M1.2.2.1 20 j = M.2.2.1 20 j) ∧ ∀ j, j < q.1.length → some (M1.2.2.1 20 (w + j)) = (q.1[j]?).map nI
set_option maxHeartbeats 4000000 in
theorem read_loop (k : Nat) : ∀ (z w o nots p : Nat) (M : Mem), w + z = 30 → o ≤ w + 1 → p ≤ n → Wd M → TxC M b n → M.2.2.1 14 11 = nI p → RdEnd M k w o nots (scan b n z p o) := by
  intro z
  have h0 : ∀ (z w nots p : Nat) (M : Mem), w ≤ 30 → M.2.2.1 14 11 = nI p → RdEnd M k w 0 nots (scan b n z p 0) := by
    intro z w nots p M hw h11
    rw [scan_z]
    refine ⟨M, ?_, Fr.refl, rfl, rfl, h11, fun _ _ => rfl, fun j hj => absurd hj (Nat.not_lt_zero _)⟩
    refine (ge_X6_readFormula_6 (k + 2) 14 _ _ _ M).trans ?_
    simp only [T_X6_readFormula_6, show (nI 0 ≤ (0 : Int32)) = True from eq_true (by decide), if_true]
    rfl
  -- one word: what the class does with it
  have one : ∀ (w o nots p : Nat) (M : Mem), w ≤ 30 → o ≤ w → p ≤ n → Wd M → TxC M b n → M.2.2.1 14 11 = nI p →
      (¬ tw b n p ≤ 12 → ∃ M1, lp (st_X6_readFormula (k + 2)) (6, [.ref 14, .int (nI (o + 1)), .int (nI nots), .int (nI w)], M) = some (-1, M1) ∧ Fr SRF M M1 ∧ M1.2.2.1 14 17 = nI 1 ∧ M1.2.2.1 14 18 = nI (tq b n p)) ∧
      (tw b n p ≤ 12 → w = 30 → ∃ M1, lp (st_X6_readFormula (k + 2)) (6, [.ref 14, .int (nI (o + 1)), .int (nI nots), .int (nI w)], M) = some (-1, M1) ∧ Fr SRF M M1 ∧ M1.2.2.1 14 17 = nI 4 ∧ M1.2.2.1 14 18 = nI (tq b n p)) ∧
      (tw b n p ≤ 12 → w < 30 → ∃ M1, lp (st_X6_readFormula (k + 2)) (6, [.ref 14, .int (nI (o + 1)), .int (nI nots), .int (nI w)], M) = lp (st_X6_readFormula (k + 2)) (6, [.ref 14, .int (nI (opn o (tw b n p))), .int (nI (nots + if tw b n p = 12 then 1 else 0)), .int (nI (w + 1))], M1) ∧ Fr SRF M M1 ∧ M1.2.2.1 14 17 = M.2.2.1 14 17 ∧ M1.2.2.1 14 18 = M.2.2.1 14 18 ∧ M1.2.2.1 14 11 = nI (te b n p) ∧ (∀ j, j < w → M1.2.2.1 20 j = M.2.2.1 20 j) ∧ M1.2.2.1 20 w = nI (tw b n p)) := by
    intro w o nots p M hw ho hp hW hX h11
    obtain ⟨M5, a1, a2, a3, a4, a5, a6⟩ := c_advance hW hX k hp h11
    have hW5 := a2.Wd hW
    have h6 := hX.2.1
    have hle := tq_le b n p hp
    have hpos : (nI (o + 1) ≤ (0 : Int32)) = False := eq_false (nI_nle (by omega) (by omega))
    have head : lp (st_X6_readFormula (k + 2)) (6, [.ref 14, .int (nI (o + 1)), .int (nI nots), .int (nI w)], M) = T_X6_readFormula_6 (fun c l M => lp (st_X6_readFormula (k + 2)) (c, l, M)) (fun v M => some (v, M)) none (k + 2) 14 (nI (o + 1)) (nI nots) (nI w) M := ge_X6_readFormula_6 (k + 2) 14 _ _ _ M
    have f1 := c_fail hW5 (k + 1) 1 (nI (tq b n p))
    have f4 := c_fail hW5 (k + 1) 4 (nI (tq b n p))
    have hn30 : ¬ 30 < w := by omega
    refine ⟨fun hbad => ?_, fun hok hw30 => ?_, fun hok hw30 => ?_⟩
    · refine ⟨wI (wI M5 14 17 1) 14 18 (nI (tq b n p)), ?_, ((a2.mono SA_SRF).wI (by simp [SRF]) _).wI (by simp [SRF]) _, rfl, rfl⟩
      rw [head]
      rcases tw_is b n p hp with ⟨t1, t2, t3, t4, t5, t6⟩ | ⟨t1, t2, t3⟩
      · have hlt0 : (nI (tw b n p) < 0) = False := nI_lt0 (by omega)
        simp (disch := omega) only [T_X6_readFormula_6, hpos, if_false, show (30 : Int32) = nI 30 from rfl, nI_lt_, hn30, W_14 hW, W_14 hW5, gd_true, fO, Nat.reduceLT, and_self, cal_s, a1, bnd2_s, a5, t3, hlt0, show (12 : Int32) = nI 12 from rfl, nI_le_, a3, f1]
        rw [if_neg hbad]
      · have hlt0 : (cod b n p < 0) = True := by
          rcases t3 with t | t | t <;> rw [t] <;> exact eq_true (by decide)
        simp (disch := omega) only [T_X6_readFormula_6, hpos, if_false, show (30 : Int32) = nI 30 from rfl, nI_lt_, hn30, W_14 hW, W_14 hW5, gd_true, fO, Nat.reduceLT, and_self, cal_s, a1, bnd2_s, a5, hlt0, if_true, a3, f1]
    · rcases tw_is b n p hp with ⟨t1, t2, t3, t4, t5, t6⟩ | ⟨t1, t2, t3⟩
      · refine ⟨wI (wI M5 14 17 4) 14 18 (nI (tq b n p)), ?_, ((a2.mono SA_SRF).wI (by simp [SRF]) _).wI (by simp [SRF]) _, rfl, rfl⟩
        rw [head]
        have hlt0 : (nI (tw b n p) < 0) = False := nI_lt0 (by omega)
        have hw3 : ¬ w < 30 := by omega
        simp (disch := omega) only [T_X6_readFormula_6, hpos, if_false, show (30 : Int32) = nI 30 from rfl, nI_lt_, hn30, W_14 hW, W_14 hW5, gd_true, fO, Nat.reduceLT, and_self, cal_s, a1, bnd2_s, a5, t3, hlt0, show (12 : Int32) = nI 12 from rfl, nI_le_, hok, if_true, hw3, a3, f4]
      · omega
    · rcases tw_is b n p hp with ⟨t1, t2, t3, t4, t5, t6⟩ | ⟨t1, t2, t3⟩
      · refine ⟨wI M5 20 w (nI (tw b n p)), ?_, (a2.mono SA_SRF).wI (by simp [SRF]) _, ?_, ?_, ?_, fun j hj => ?_, by simp [up2_if]⟩
        · rw [head]
          have hlt0 : (nI (tw b n p) < 0) = False := nI_lt0 (by omega)
          simp (disch := omega) only [T_X6_readFormula_6, hpos, if_false, show (30 : Int32) = nI 30 from rfl, nI_lt_, hn30, W_14 hW, W_14 hW5, gd_true, fO, fA, ex_in, bnd_s, Nat.reduceLT, true_and, and_self, cal_s, a1, bnd2_s, a5, t3, hlt0, show (12 : Int32) = nI 12 from rfl, nI_le_, hok, if_true, hw30, nI_z, vp_iff, up2_if, Nat.reduceEqDiff, false_and, nI_eq_, nI_1, show (9 : Int32) = nI 9 from rfl, nI_m1]
          unfold opn
          by_cases h12 : tw b n p = 12
          · rw [if_pos h12, if_pos h12, if_pos h12]
          · rw [if_neg h12, if_neg h12, if_neg h12]
            by_cases h9 : 9 ≤ tw b n p
            · rw [if_neg (by omega), if_pos h9]
              rfl
            · rw [if_pos (by omega), if_neg h9]
              rfl
        · exact a2.int (by simp [SA])
        · exact a2.int (by simp [SA])
        · rw [← t4]
          exact a4
        · have : ¬ (j = w) := by omega
          simp only [up2_if, true_and, this, if_false]
          exact a2.int (by simp [SA])
      · omega
  induction z with
  | zero =>
    intro w o nots p M hw ho hp hW hX h11
    cases o with
    | zero => exact h0 0 w nots p M (by omega) h11
    | succ o =>
      obtain ⟨o1, o2, -⟩ := one w o nots p M (by omega) (by omega) hp hW hX h11
      show RdEnd M k w (o + 1) nots (.inl (if tw b n p ≤ 12 then 4 else 1, tq b n p))
      by_cases h : tw b n p ≤ 12
      · rw [if_pos h]
        exact o2 h (by omega)
      · rw [if_neg h]
        exact o1 h
  | succ z ih =>
    intro w o nots p M hw ho hp hW hX h11
    cases o with
    | zero => exact h0 (z + 1) w nots p M (by omega) h11
    | succ o =>
      obtain ⟨o1, -, o3⟩ := one w o nots p M (by omega) (by omega) hp hW hX h11
      rw [scan_s]
      by_cases h : tw b n p ≤ 12
      · rw [if_pos h]
        obtain ⟨M1, e, hF, g17, g18, g11, gj, gw⟩ := o3 h (by omega)
        have hX1 := hX.fr hF (by simp [SRF]) (by simp [SRF]) (by simp [SRF])
        have hle := tq_le b n p hp
        have := ih (w + 1) (opn o (tw b n p)) (nots + if tw b n p = 12 then 1 else 0) (te b n p) M1 (by omega) (by unfold opn; split <;> (try split) <;> omega) hle.2.2.2 (hF.Wd hW) hX1 g11
        cases hs : scan b n z (te b n p) (opn o (tw b n p)) with
        | inl r =>
          rw [hs] at this
          obtain ⟨M2, x1, x2, x3, x4⟩ := this
          exact ⟨M2, e.trans x1, hF.trans x2, x3, x4⟩
        | inr r =>
          rw [hs] at this
          obtain ⟨M2, x1, x2, x3, x4, x5, x6, x7⟩ := this
          refine ⟨M2, e.trans (x1.trans ?_), hF.trans x2, x3.trans g17, x4.trans g18, x5, fun j hj => (x6 j (by omega)).trans (gj j hj), fun j hj => ?_⟩
          · show lp _ (114, [.ref 14, .int (nI (nots + (if tw b n p = 12 then 1 else 0) + r.1.count 12)), .int (nI (w + 1 + r.1.length))], M2) = lp _ (114, [.ref 14, .int (nI (nots + (tw b n p :: r.1).count 12)), .int (nI (w + (tw b n p :: r.1).length))], M2)
            have c1 : nots + (if tw b n p = 12 then 1 else 0) + r.1.count 12 = nots + (tw b n p :: r.1).count 12 := by
              rw [List.count_cons]
              by_cases h12 : tw b n p = 12
              · rw [h12]; simp; omega
              · simp [h12]
            have c2 : w + 1 + r.1.length = w + (tw b n p :: r.1).length := by simp only [List.length_cons]; omega
            rw [c1, c2]
          · cases j with
            | zero => rw [Nat.add_zero, x6 w (by omega), gw]; rfl
            | succ j =>
              have := x7 j (by simp only [List.length_cons] at hj; omega)
              rw [show w + (j + 1) = w + 1 + j by omega, this]
              rfl
      · rw [if_neg h]
        exact o1 h
def SRB (a k : Nat) : Prop := SRF a k ∨ SF a k ∨ (a = 14 ∧ (k = 15 ∨ k = 16))
set_option maxHeartbeats 2000000 in
/-- READ FORMULA, in the class -/
theorem c_readFormula (hW : Wd M) (hX : TxC M b n) {c : Nat} (hT : TabC M c) (k : Nat) {p : Nat} (hp : p ≤ n) (h11 : M.2.2.1 14 11 = nI p) (hc : c + 30 ≤ 5200) :
    (∀ kd pl, scan b n 30 p 1 = .inl (kd, pl) → ∃ M1, f_X6_readFormula (k + 3) 14 M = some (-1, M1) ∧ Fr SRF M M1 ∧ M1.2.2.1 14 17 = nI kd ∧ M1.2.2.1 14 18 = nI pl) ∧
    (∀ l q, scan b n 30 p 1 = .inr (l, q) → ∃ f c1 M1, f_X6_readFormula (k + 3) 14 M = some (nI f, M1) ∧ Fr SRB M M1 ∧ M1.2.2.1 14 17 = M.2.2.1 14 17 ∧ M1.2.2.1 14 18 = M.2.2.1 14 18 ∧ M1.2.2.1 14 11 = nI q ∧ M1.2.2.1 14 15 = nI l.length ∧ M1.2.2.1 14 16 = nI (l.length + l.count 12) ∧ f < c1 ∧ c ≤ c1 ∧ c1 ≤ c + l.length ∧ TabC M1 c1 ∧ (∀ i, i < c → dC M1 i = dC M i) ∧ some (dC M1 f) = (ev l)[0]?) := by
  have e0 : f_X6_readFormula (k + 3) 14 M = lp (st_X6_readFormula (k + 3)) (6, [.ref 14, .int (nI 1), .int (nI 0), .int (nI 0)], M) := ge_X6_readFormula_0 (k + 3) 14 M
  have hr := read_loop (b := b) (n := n) (k + 1) 30 0 1 0 p M (by omega) (by omega) hp hW hX h11
  refine ⟨fun kd pl hs => ?_, fun l q hs => ?_⟩
  · rw [hs] at hr
    obtain ⟨M1, x⟩ := hr
    exact ⟨M1, e0.trans x.1, x.2⟩
  · rw [hs] at hr
    obtain ⟨M1, x1, x2, x3, x4, x5, x6, x7⟩ := hr
    have hlen := scan_len hs
    have hch := (scan_chk hp hs).1
    have hW1 := x2.Wd hW
    have hT1 : TabC M1 c := by
      have i2 := x2.int (a := 2) (k := 7) (by simp [SRF])
      have i3 := x2.ints (a := 3) (by simp [SRF])
      have i4 := x2.ints (a := 4) (by simp [SRF])
      have i5 := x2.ints (a := 5) (by simp [SRF])
      have i6 := x2.lngs (a := 6) (by simp [SRF])
      have i7 := x2.ints (a := 7) (by simp [SRF])
      have i9 := x2.ints (a := 9) (by simp [SRF])
      unfold TabC HC dC at hT ⊢
      rw [i2, i3, i4, i5, i6, i7, i9]
      exact hT
    have hd1 : ∀ i, dC M1 i = dC M i := fun i => by
      have i3 := x2.ints (a := 3) (by simp [SRF])
      have i4 := x2.ints (a := 4) (by simp [SRF])
      have i5 := x2.ints (a := 5) (by simp [SRF])
      unfold dC
      rw [i3, i4, i5]
    have hWb : Wd (wI (wI M1 14 15 (nI l.length)) 14 16 (nI (l.length + l.count 12))) := (hW1.wI _ _ _).wI _ _ _
    obtain ⟨f, c1, M2, y1, y2, y3, y4, y5, y6, y7, y8⟩ := c_build (M := wI (wI M1 14 15 (nI l.length)) 14 16 (nI (l.length + l.count 12))) k hWb hT1 hlen hch (by omega) (fun j hj => by
      have := x7 j hj
      rw [Nat.zero_add] at this
      exact this)
    have hF2 : Fr SRB M M2 := ((((x2.mono (T := SRB) (fun a k h => Or.inl h)).wI (by simp [SRB]) _).wI (by simp [SRB]) _).trans (y7.mono (fun a k h => by
      rcases h with h | h
      · exact Or.inr (Or.inl h)
      · exact Or.inl (Or.inr h))))
    refine ⟨f, c1, M2, ?_, hF2, ?_, ?_, ?_, ?_, ?_, y2, y3, y4, y5, fun i hi => (y6 i hi).trans (hd1 i), y8⟩
    · rw [e0, x1]
      refine (ge_X6_readFormula_114 (k + 3) 14 _ _ M1).trans ?_
      simp only [T_X6_readFormula_114, W_14 hW1, gd_true, fO, fA, ex_in, bnd_s, bnd2_s, cal_s, Nat.reduceLT, true_and, and_true, and_self, nI_z, vp_iff, up2_if, Nat.reduceEqDiff, false_and, and_false, if_false, if_true, nI_1, nI_le_, nI_lt_, nI_lt0, nI_eq_, nI_add, Nat.zero_add]
      rw [y1]
      rfl
    · rw [y7.int (by simp [SBF, SF])]
      exact x3
    · rw [y7.int (by simp [SBF, SF])]
      exact x4
    · rw [y7.int (by simp [SBF, SF])]
      exact x5
    · rw [y7.int (by simp [SBF, SF])]
      rfl
    · rw [y7.int (by simp [SBF, SF])]
      rfl
end RFC
