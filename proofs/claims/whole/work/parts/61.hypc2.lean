/-! HYPOTHESES, the call, in the class, going on -/
def SHr (a k : Nat) : Prop := SHy a k ∨ (a = 14 ∧ k = 10)
def SHc (a k : Nat) : Prop := SHr a k ∨ (a = 0 ∧ k = 1)
def SHd (a k : Nat) : Prop := SHc a k ∨ a = 11 ∨ a = 12 ∨ a = 13 ∨ (a = 10 ∧ k = 3) ∨ ((a = 25 ∨ a = 28 ∨ a = 31 ∨ a = 34) ∧ (k = 2 ∨ k = 3))
section HC2
variable {M : Mem} {b : Nat → Nat}
set_option maxHeartbeats 4000000 in
theorem c_readHyps (hW : Wd M) {n : Nat} (hn : n ≤ 600) (hPw : PwC M) (hb : ∀ i, i < n → b i < 256 ∧ M.2.2.1 1 i = nI (b i)) {c : Nat} (hT : TabC M c) (k : Nat) (hc : 2 * c + n + 1 ≤ 10300) :
    (∀ e, rdH b n 7 0 [] = .inl e → ∃ c1 M1, f_X6_readHypotheses (k + 6) 14 (nI n) M = some (0, M1) ∧ Fr SHr M M1 ∧ M1.2.2.1 14 17 = nI e.1 ∧ M1.2.2.1 14 18 = nI e.2 ∧ c ≤ c1 ∧ 2 * c1 ≤ 2 * c + n + 1 ∧ TabC M1 c1 ∧ ∀ i, i < c → dC M1 i = dC M i) ∧
    (∀ acc, rdH b n 7 0 [] = .inr acc → ∃ c1 M1, f_X6_readHypotheses (k + 6) 14 (nI n) M = some (1, M1) ∧ Fr SHr M M1 ∧ M1.2.2.1 14 17 = 0 ∧ M1.2.2.1 14 18 = -1 ∧ c ≤ c1 ∧ 2 * c1 ≤ 2 * c + n + 1 ∧ TabC M1 c1 ∧ (∀ i, i < c → dC M1 i = dC M i) ∧ HyC M1 16 c1 (hyL acc) ∧ acc.length ≤ 6 ∧ ∀ u, u ∈ acc → chk u.2 1 ∧ u.2.length ≤ 30) := by
  have e0 := c_begin hW (k + 4) hn
  generalize hM3 : wI (wI (wI (wI M 14 10 (nI n)) 14 11 0) 14 17 0) 14 18 (-1) = M3 at e0
  have F3 : Fr SHr M M3 := by
    rw [← hM3]
    exact (((Fr.refl.wI (Or.inr ⟨rfl, rfl⟩) _).wI (Or.inl (SE_SHy _ _ ⟨rfl, by omega⟩)) _).wI (Or.inl (SE_SHy _ _ ⟨rfl, by omega⟩)) _).wI (Or.inl (SE_SHy _ _ ⟨rfl, by omega⟩)) _
  have hW3 := F3.Wd hW
  have e1 := c_clear16 hW3 (k + 5)
  have F4 : Fr SHr M (wI M3 16 3 0) := F3.wI (by simp [SHr, SHy]) _
  have hW4 := F4.Wd hW
  have hX4 : TxC (wI M3 16 3 0) b n := by rw [← hM3]; exact ⟨rfl, hn, hPw, hb⟩
  have hT4 : TabC (wI M3 16 3 0) c ∧ ∀ i, dC (wI M3 16 3 0) i = dC M i := by rw [← hM3]; exact ⟨hT, fun _ => rfl⟩
  have h11 : (wI M3 16 3 0).2.2.1 14 11 = nI 0 := by rw [← hM3]; rfl
  have h17 : (wI M3 16 3 0).2.2.1 14 17 = 0 := by rw [← hM3]; rfl
  have h18 : (wI M3 16 3 0).2.2.1 14 18 = -1 := by rw [← hM3]; rfl
  have hl := hyp_loop (b := b) (n := n) k 6 0 0 c [] (wI M3 16 3 0) (by omega) rfl (Nat.zero_le _) hW4 hX4 h11 hT4.1 ⟨rfl, by simp [hyL], fun j hj => by simp [hyL] at hj⟩ (by omega) (fun u hu => by simp at hu)
  have head : f_X6_readHypotheses (k + 6) 14 (nI n) M = lp (st_X6_readHypotheses (k + 6)) (14, [.ref 14, .int (nI 0)], wI M3 16 3 0) := by
    refine (ge_X6_readHypotheses_0 (k + 6) 14 _ M).trans ?_
    simp only [T_X6_readHypotheses_0, W_14 hW, W_14 hW3, W_16 hW3, gd_true, fO, fA, ex_in, bnd_s, bnd2_s, cal_s, Nat.reduceLT, true_and, and_true, and_self, nI_z, vp_iff, up2_if, Nat.reduceEqDiff, false_and, and_false, if_false, if_true, nI_1, nI_le_, nI_lt_, nI_lt0, nI_eq_, nI_add, e0, e1]
    rfl
  refine ⟨fun e he => ?_, fun acc he => ?_⟩
  · rw [he] at hl
    obtain ⟨c1, M1, y1, y2, y3, y4, y5, y6, y7, y8⟩ := hl
    exact ⟨c1, M1, head.trans y1, F4.trans (y2.mono (fun a k h => Or.inl h)), y3, y4, y5, by omega, y7, fun i hi => (y8 i hi).trans (hT4.2 i)⟩
  · rw [he] at hl
    obtain ⟨c1, M1, y1, y2, y3, y4, y5, y6, y7, y8, y9, y10, y11⟩ := hl
    exact ⟨c1, M1, head.trans y1, F4.trans (y2.mono (fun a k h => Or.inl h)), y3.trans h17, y4.trans h18, y5, by omega, y7, fun i hi => (y8 i hi).trans (hT4.2 i), y9, y10, y11⟩
/-- the slots made empty -/
abbrev clM (M : Mem) : Mem := wI (wI (wI (wI (wI (wI (wI (wI M 25 2 0) 25 3 0) 28 2 0) 28 3 0) 31 2 0) 31 3 0) 34 2 0) 34 3 0
theorem cl_step (hW : Wd M) (k : Nat) {s : Nat} (hs : s < 4) : lp (st_X10_hypotheses (k + 1)) (54, [.ref 0, .int (nI s)], M) = lp (st_X10_hypotheses (k + 1)) (54, [.ref 0, .int (nI (s + 1))], wI (wI M (25 + 3 * s) 2 0) (25 + 3 * s) 3 0) := by
  refine (ge_X10_hypotheses_54 (k + 1) 0 _ M).trans ?_
  have hr : M.2.2.2.2 24 s = some (25 + 3 * s) ∧ M.2.1 (25 + 3 * s) = .inr 9 ∧ (25 + 3 * s < 126) := by
    have hw := W_24 hW
    match s, hs with
    | 0, _ => exact ⟨hw.2.1, hw.2.2.2.2.2.2.1, by omega⟩
    | 1, _ => exact ⟨hw.2.2.1, hw.2.2.2.2.2.2.2.1, by omega⟩
    | 2, _ => exact ⟨hw.2.2.2.1, hw.2.2.2.2.2.2.2.2.1, by omega⟩
    | 3, _ => exact ⟨hw.2.2.2.2.1, hw.2.2.2.2.2.2.2.2.2, by omega⟩
  have ec : f_X9_clear k (25 + 3 * s) M = some ((), wI (wI M (25 + 3 * s) 2 0) (25 + 3 * s) 3 0) := by
    unfold f_X9_clear b_X9_clear
    simp only [T_X9_clear_0, gd_true, fO, hW.1, hr.2.1, hr.2.2, and_self]
  simp (disch := omega) only [T_X10_hypotheses_54, W_0 hW, gd_true, fO, fA, ex_in, bnd_s, bnd2_s, cal_s, Nat.reduceLT, true_and, and_true, and_self, nI_z, vp_iff, up2_if, Nat.reduceEqDiff, false_and, and_false, if_false, if_true, nI_1, nI_le_, nI_lt_, nI_lt0, nI_eq_, nI_add, show (4 : Int32) = nI 4 from rfl, hr.1, hr.2.1, hr.2.2, hs, ec]
  rw [if_neg (by omega)]
theorem cl_all (hW : Wd M) (k : Nat) : lp (st_X10_hypotheses (k + 1)) (54, [.ref 0, .int (nI 0)], M) = some (M.2.2.1 10 3, clM M) := by
  have w1 := (hW.wI 25 2 0).wI 25 3 0
  have w2 := (w1.wI 28 2 0).wI 28 3 0
  have w3 := (w2.wI 31 2 0).wI 31 3 0
  have w4 := (w3.wI 34 2 0).wI 34 3 0
  rw [cl_step hW k (by omega), cl_step w1 k (s := 1) (by omega), cl_step w2 k (s := 2) (by omega), cl_step w3 k (s := 3) (by omega)]
  refine (ge_X10_hypotheses_54 (k + 1) 0 _ _).trans ?_
  simp (disch := omega) only [T_X10_hypotheses_54, show (4 : Int32) = nI 4 from rfl, nI_le_, W_0 hW, W_10 hW, gd_true, fO, fA, ex_in, bnd_s, bnd2_s, cal_s, Nat.reduceLT, true_and, and_true, and_self, nI_z, vp_iff, up2_if, Nat.reduceEqDiff, false_and, and_false, if_false, if_true, nI_1, nI_le_, nI_lt_, nI_lt0, nI_eq_, nI_add, Nat.reduceAdd, Nat.reduceMul, Nat.le_refl]
set_option maxHeartbeats 4000000 in
theorem c_hypotheses (hW : Wd M) {L : Nat} (hTp : TpC M b L) (hPw : PwC M) {c : Nat} (hT : TabC M c) (hc : 2 * c + L + 1 ≤ 10300) (k : Nat) (x : Int32) :
    ((∀ n, n ≤ L → x ≠ nI n) → f_X10_hypotheses (k + 7) 0 x M = some (-3, M)) ∧ ∀ n, n ≤ L → x = nI n →
    ((∀ e, rdH b n 7 0 [] = .inl e → ∃ c1 M1, f_X10_hypotheses (k + 7) 0 x M = some (-30 - nI e.1, M1) ∧ Fr SHc M M1 ∧ M1.2.2.1 0 1 = nI 0 ∧ M1.2.2.1 14 17 = nI e.1 ∧ M1.2.2.1 14 18 = nI e.2 ∧ c ≤ c1 ∧ 2 * c1 ≤ 2 * c + n + 1 ∧ TabC M1 c1 ∧ ∀ i, i < c → dC M1 i = dC M i) ∧
     (∀ acc, rdH b n 7 0 [] = .inr acc → ∃ c1 M1, f_X10_hypotheses (k + 7) 0 x M = some (nI acc.length, M1) ∧ Fr SHd M M1 ∧ M1.2.2.1 0 1 = nI 0 ∧ M1.2.2.1 14 17 = 0 ∧ M1.2.2.1 14 18 = -1 ∧ c ≤ c1 ∧ 2 * c1 ≤ 2 * c + n + 1 ∧ TabC M1 c1 ∧ (∀ i, i < c → dC M1 i = dC M i) ∧ HyC M1 10 c1 (hyL acc) ∧ (∀ s, s < 4 → M1.2.2.1 (25 + 3 * s) 2 = 0 ∧ M1.2.2.1 (25 + 3 * s) 3 = 0) ∧ acc.length ≤ 6 ∧ ∀ u, u ∈ acc → chk u.2 1 ∧ u.2.length ≤ 30)) := by
  obtain ⟨tA, tB⟩ := c_tapeLacks hW hTp.1 hTp.2.1 (k + 6) x
  refine ⟨fun h => ?_, fun n hn hx => ?_⟩
  · have e := tB h
    refine (ge_X10_hypotheses_0 (k + 7) 0 x M).trans ?_
    simp only [T_X10_hypotheses_0, W_0 hW, gd_true, fO, fA, ex_in, bnd_s, bnd2_s, cal_s, Nat.reduceLT, true_and, and_true, and_self, nI_z, vp_iff, up2_if, Nat.reduceEqDiff, false_and, and_false, if_false, if_true, nI_1, nI_le_, nI_lt_, nI_lt0, nI_eq_, nI_add, e, show ((1 : Int32) = 0) = False from eq_false (by decide)]
  · have e := tA n hn hx
    have h6 := hTp.2.1
    obtain ⟨gA, gB⟩ := c_readHyps (M := wI M 0 1 0) (b := b) (hW.wI _ _ _) (n := n) (by omega) hPw (fun i hi => hTp.2.2 i (by omega)) (c := c) hT k (by omega)
    rw [← hx] at gA gB
    refine ⟨fun er h => ?_, fun acc h => ?_⟩
    · obtain ⟨c1, M1, y1, y2, y3, y4, y5, y6, y7, y8⟩ := gA er h
      have hW1 := y2.Wd (hW.wI _ _ _)
      refine ⟨c1, M1, ?_, (Fr.refl.wI (a := 0) (k := 1) (by simp [SHc]) _).trans (y2.mono (fun a k h => Or.inl h)), y2.int (by simp [SHr, SHy, SRB, SRF, SF]), y3, y4, y5, y6, y7, y8⟩
      refine (ge_X10_hypotheses_0 (k + 7) 0 x M).trans ?_
      simp only [T_X10_hypotheses_0, W_0 hW, W_0 hW1, gd_true, fO, fA, ex_in, bnd_s, bnd2_s, cal_s, Nat.reduceLT, true_and, and_true, and_self, nI_z, vp_iff, up2_if, Nat.reduceEqDiff, false_and, and_false, if_false, if_true, nI_1, nI_le_, nI_lt_, nI_lt0, nI_eq_, nI_add, e, y1, y3]
    · obtain ⟨c1, M1, y1, y2, y3, y4, y5, y6, y7, y8, y9, y10, y11⟩ := gB acc h
      have hW1 := y2.Wd (hW.wI _ _ _)
      obtain ⟨M2, z1, z2, z3⟩ := c_takeOverH hW1 (k + 5) y9
      have hW2 := z2.Wd hW1
      have F2 : Fr SHd M M2 := ((Fr.refl.wI (a := 0) (k := 1) (by simp [SHd, SHc]) _).trans (y2.mono (fun a k h => Or.inl (Or.inl h)))).trans (z2.mono (fun a k h => Or.inr (by omega)))
      obtain ⟨t1, t2⟩ := y7.fr z2 (by omega) (by omega) (by omega) (by omega) (by omega) (by omega) (by omega)
      have e10 : M2.2.2.1 10 3 = nI acc.length := by rw [z3.1, hyL_len]
      refine ⟨c1, clM M2, ?_, ?_, ?_, ?_, ?_, y5, y6, t1, fun i hi => (t2 i).trans (y8 i hi), ?_, fun s hs => ?_, y10, y11⟩
      · refine (ge_X10_hypotheses_0 (k + 7) 0 x M).trans ?_
        simp only [T_X10_hypotheses_0, W_0 hW, W_0 hW1, W_14 hW1, W_10 hW1, gd_true, fO, fA, ex_in, bnd_s, bnd2_s, cal_s, Nat.reduceLT, true_and, and_true, and_self, nI_z, vp_iff, up2_if, Nat.reduceEqDiff, false_and, and_false, if_false, if_true, nI_1, nI_le_, nI_lt_, nI_lt0, nI_eq_, nI_add, e, y1, show ((1 : Int32) = 0) = False from eq_false (by decide), z1]
        rw [← e10]
        exact cl_all hW2 (k + 6)
      · exact (((((((F2.wI (by simp [SHd]) _).wI (by simp [SHd]) _).wI (by simp [SHd]) _).wI (by simp [SHd]) _).wI (by simp [SHd]) _).wI (by simp [SHd]) _).wI (by simp [SHd]) _).wI (by simp [SHd]) _
      · show M2.2.2.1 0 1 = _
        rw [z2.int (by omega), y2.int (by simp [SHr, SHy, SRB, SRF, SF])]
        rfl
      · show M2.2.2.1 14 17 = _
        rw [z2.int (by omega)]
        exact y3
      · show M2.2.2.1 14 18 = _
        rw [z2.int (by omega)]
        exact y4
      · exact z3.fr rfl rfl rfl rfl (Nat.le_refl _) (fun i hi => rfl) |> fun h => (show HyC (clM M2) 10 c1 (hyL acc) from ⟨h.1, h.2.1, h.2.2⟩)
      · match s, hs with
        | 0, _ => exact ⟨rfl, rfl⟩
        | 1, _ => exact ⟨rfl, rfl⟩
        | 2, _ => exact ⟨rfl, rfl⟩
        | 3, _ => exact ⟨rfl, rfl⟩
end HC2
