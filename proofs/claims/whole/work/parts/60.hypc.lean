/-! HYPOTHESES, the call, in the class -/
def hyL (acc : List (Nat × List Nat)) : List (Nat × Fm) := acc.map (fun u => (u.1, hdF u.2))
theorem hyL_fst (acc : List (Nat × List Nat)) : (hyL acc).map Prod.fst = acc.map Prod.fst := by
  unfold hyL
  rw [List.map_map]
  rfl
theorem hyL_app (acc : List (Nat × List Nat)) (nm : Nat) (l : List Nat) : hyL (acc ++ [(nm, l)]) = hyL acc ++ [(nm, hdF l)] := by simp [hyL]
theorem hyL_len (acc : List (Nat × List Nat)) : (hyL acc).length = acc.length := by simp [hyL]
section HC
variable {M : Mem} {b : Nat → Nat} {n : Nat}
/-- what the loop of hypotheses comes to -/
def HlEnd (M : Mem) (k n c w : Nat) (B : Nat) (r : (Nat × Nat) ⊕ List (Nat × List Nat)) : Prop := match r with
  | .inl e => ∃ c1 M1, lp (st_X6_readHypotheses (k + 6)) (14, [.ref 14, .int (nI w)], M) = some (0, M1) ∧ Fr SHy M M1 ∧ M1.2.2.1 14 17 = nI e.1 ∧ M1.2.2.1 14 18 = nI e.2 ∧ c ≤ c1 ∧ 2 * c1 ≤ B ∧ TabC M1 c1 ∧ ∀ i, i < c → dC M1 i = dC M i
  | .inr acc => ∃ c1 M1, lp (st_X6_readHypotheses (k + 6)) (14, [.ref 14, .int (nI w)], M) = some (1, M1) ∧ Fr SHy M M1 ∧ M1.2.2.1 14 17 = M.2.2.1 14 17 ∧ M1.2.2.1 14 18 = M.2.2.1 14 18 ∧ c ≤ c1 ∧ 2 * c1 ≤ B ∧ TabC M1 c1 ∧ (∀ i, i < c → dC M1 i = dC M i) ∧ HyC M1 16 c1 (hyL acc) ∧ acc.length ≤ 6 ∧ ∀ u, u ∈ acc → chk u.2 1 ∧ u.2.length ≤ 30
theorem hy1_len {p : Nat} {names : List Nat} {q : List Nat × Nat} (h : hy1 b n p names = .inr q) : names.length < 6 := by
  unfold hy1 itc at h
  split at h
  · split at h
    · cases h
    · split at h
      · assumption
      · cases h
  · cases h
set_option maxHeartbeats 4000000 in
theorem hyp_loop (k : Nat) : ∀ (z w p c : Nat) (acc : List (Nat × List Nat)) (M : Mem), w + z = 6 → acc.length = w → p ≤ n → Wd M → TxC M b n → M.2.2.1 14 11 = nI p → TabC M c → HyC M 16 c (hyL acc) → 2 * c + (n + 1 - p) ≤ 10300 → (∀ u, u ∈ acc → chk u.2 1 ∧ u.2.length ≤ 30) → HlEnd M k n c w (2 * c + (n + 1 - p)) (rdH b n (z + 1) p acc) := by
  intro z
  induction z with
  | zero =>
    intro w p c acc M hw ha hp hW hX h11 hT hH hB hacc
    have h6 := hX.2.1
    obtain ⟨M1, a1, a2, a3, a4, a5, a6⟩ := c_advance hW hX (k + 4) hp h11
    have hW1 := a2.Wd hW
    have hX1 := hX.fr a2 (by simp [SA]) (by simp [SA]) (by simp [SA])
    obtain ⟨t1, t2⟩ := hT.fr a2 (by simp [SA]) (by simp [SA]) (by simp [SA]) (by simp [SA]) (by simp [SA]) (by simp [SA]) (by simp [SA])
    have hH1 : HyC M1 16 c (hyL acc) := hH.fr (a2.int (by simp [SA])) (a2.ints (by simp [SA])) (a2.ints (by simp [SA])) (a2.ints (by simp [SA])) (Nat.le_refl _) (fun i _ => t2 i)
    have F1 : Fr SHy M M1 := a2.mono (fun a k h => SE_SHy a k (SA_SE a k h))
    have head : lp (st_X6_readHypotheses (k + 6)) (14, [.ref 14, .int (nI w)], M) = if cod b n p = -3 then some (1, M1) else bnd2 (f_X6_readHypothesis (k + 5) 14 M1) none (fun v11 M12 => if v11 = 0 then some (0, M12) else lp (st_X6_readHypotheses (k + 6)) (14, [.ref 14, .int (nI (w + 1))], M12)) := by
      refine (ge_X6_readHypotheses_14 (k + 6) 14 _ M).trans ?_
      simp (disch := omega) only [T_X6_readHypotheses_14, W_14 hW, W_14 hW1, gd_true, fO, fA, ex_in, bnd_s, bnd2_s, cal_s, Nat.reduceLT, true_and, and_true, and_self, nI_z, vp_iff, up2_if, Nat.reduceEqDiff, false_and, and_false, if_false, if_true, nI_1, nI_le_, nI_lt_, nI_lt0, nI_eq_, nI_add, show (6 : Int32) = nI 6 from rfl, a1, a5]
      rw [if_neg (by omega)]
    unfold rdH
    by_cases hend : tq b n p = n
    · rw [if_pos hend]
      exact ⟨c, M1, by rw [head, if_pos ((cod_end b n p hp).mpr hend)], F1, a2.int (by simp [SA]), a2.int (by simp [SA]), Nat.le_refl _, by omega, t1, fun i _ => t2 i, hH1, by omega, hacc⟩
    · rw [if_neg hend]
      have hne : ¬ cod b n p = -3 := fun q => hend ((cod_end b n p hp).mp q)
      have hr := c_readHyp hW1 hX1 k hp ⟨a3, a4, a5, a6⟩ hend t1 hH1 (by omega)
      rw [hyL_fst] at hr
      cases hh : hy1 b n p (acc.map Prod.fst) with
      | inl e =>
        rw [hh] at hr
        obtain ⟨c1, M2, x1, x2, x3, x4, x5, x6, x7, x8⟩ := hr
        exact ⟨c1, M2, by rw [head, if_neg hne, x1]; rfl, F1.trans x2, x3, x4, x5, x6, x7, fun i hi => (x8 i hi).trans (t2 i)⟩
      | inr q =>
        have := hy1_len hh
        rw [List.length_map] at this
        omega
  | succ z ih =>
    intro w p c acc M hw ha hp hW hX h11 hT hH hB hacc
    have h6 := hX.2.1
    obtain ⟨M1, a1, a2, a3, a4, a5, a6⟩ := c_advance hW hX (k + 4) hp h11
    have hW1 := a2.Wd hW
    have hX1 := hX.fr a2 (by simp [SA]) (by simp [SA]) (by simp [SA])
    obtain ⟨t1, t2⟩ := hT.fr a2 (by simp [SA]) (by simp [SA]) (by simp [SA]) (by simp [SA]) (by simp [SA]) (by simp [SA]) (by simp [SA])
    have hH1 : HyC M1 16 c (hyL acc) := hH.fr (a2.int (by simp [SA])) (a2.ints (by simp [SA])) (a2.ints (by simp [SA])) (a2.ints (by simp [SA])) (Nat.le_refl _) (fun i _ => t2 i)
    have F1 : Fr SHy M M1 := a2.mono (fun a k h => SE_SHy a k (SA_SE a k h))
    have head : lp (st_X6_readHypotheses (k + 6)) (14, [.ref 14, .int (nI w)], M) = if cod b n p = -3 then some (1, M1) else bnd2 (f_X6_readHypothesis (k + 5) 14 M1) none (fun v11 M12 => if v11 = 0 then some (0, M12) else lp (st_X6_readHypotheses (k + 6)) (14, [.ref 14, .int (nI (w + 1))], M12)) := by
      refine (ge_X6_readHypotheses_14 (k + 6) 14 _ M).trans ?_
      simp (disch := omega) only [T_X6_readHypotheses_14, W_14 hW, W_14 hW1, gd_true, fO, fA, ex_in, bnd_s, bnd2_s, cal_s, Nat.reduceLT, true_and, and_true, and_self, nI_z, vp_iff, up2_if, Nat.reduceEqDiff, false_and, and_false, if_false, if_true, nI_1, nI_le_, nI_lt_, nI_lt0, nI_eq_, nI_add, show (6 : Int32) = nI 6 from rfl, a1, a5]
      rw [if_neg (by omega)]
    show HlEnd M k n c w (2 * c + (n + 1 - p)) (if tq b n p = n then .inr acc else match hy1 b n p (acc.map Prod.fst) with
      | .inl e => .inl e
      | .inr q => rdH b n (z + 1) q.2 (acc ++ [(nmAt b n p, q.1)]))
    by_cases hend : tq b n p = n
    · rw [if_pos hend]
      exact ⟨c, M1, by rw [head, if_pos ((cod_end b n p hp).mpr hend)], F1, a2.int (by simp [SA]), a2.int (by simp [SA]), Nat.le_refl _, by omega, t1, fun i _ => t2 i, hH1, by omega, hacc⟩
    · rw [if_neg hend]
      have hne : ¬ cod b n p = -3 := fun q => hend ((cod_end b n p hp).mp q)
      have hr := c_readHyp hW1 hX1 k hp ⟨a3, a4, a5, a6⟩ hend t1 hH1 (by omega)
      rw [hyL_fst] at hr
      cases hh : hy1 b n p (acc.map Prod.fst) with
      | inl e =>
        rw [hh] at hr
        obtain ⟨c1, M2, x1, x2, x3, x4, x5, x6, x7, x8⟩ := hr
        exact ⟨c1, M2, by rw [head, if_neg hne, x1]; rfl, F1.trans x2, x3, x4, x5, x6, x7, fun i hi => (x8 i hi).trans (t2 i)⟩
      | inr q =>
        rw [hh] at hr
        obtain ⟨c1, M2, x1, x2, x3, x4, x5, x6, x7, x8, x9, x10, x11, x12, x13, x14⟩ := hr
        have hW2 := x2.Wd hW1
        have hX2 := hX1.fr x2 (by simp [SHy, SRB, SRF, SF]) (by simp [SHy, SRB, SRF, SF]) (by simp [SHy, SRB, SRF, SF])
        rw [← hyL_app] at x12
        have := ih (w + 1) q.2 c1 (acc ++ [(nmAt b n p, q.1)]) M2 (by omega) (by simp; omega) x6 hW2 hX2 x5 x10 x12 (by omega) (fun u hu => by
          rcases List.mem_append.mp hu with h | h
          · exact hacc u h
          · rw [List.mem_singleton.mp h]
            exact ⟨x13, x14⟩)
        have e1 : lp (st_X6_readHypotheses (k + 6)) (14, [.ref 14, .int (nI w)], M) = lp (st_X6_readHypotheses (k + 6)) (14, [.ref 14, .int (nI (w + 1))], M2) := by
          rw [head, if_neg hne, x1, bnd2_s, if_neg (by decide)]
        show HlEnd M k n c w (2 * c + (n + 1 - p)) (rdH b n (z + 1) q.2 (acc ++ [(nmAt b n p, q.1)]))
        cases hd : rdH b n (z + 1) q.2 (acc ++ [(nmAt b n p, q.1)]) with
        | inl e =>
          rw [hd] at this
          obtain ⟨c2, M3, y1, y2, y3, y4, y5, y6, y7, y8⟩ := this
          exact ⟨c2, M3, e1.trans y1, (F1.trans x2).trans y2, y3, y4, by omega, by omega, y7, fun i hi => (y8 i (by omega)).trans ((x11 i hi).trans (t2 i))⟩
        | inr acc2 =>
          rw [hd] at this
          obtain ⟨c2, M3, y1, y2, y3, y4, y5, y6, y7, y8, y9, y10, y11⟩ := this
          exact ⟨c2, M3, e1.trans y1, (F1.trans x2).trans y2, y3.trans (x3.trans (a2.int (by simp [SA]))), y4.trans (x4.trans (a2.int (by simp [SA]))), by omega, by omega, y7, fun i hi => (y8 i (by omega)).trans ((x11 i hi).trans (t2 i)), y9, y10, y11⟩
/-! taken over -/
theorem take_loop (hW : Wd M) (k : Nat) {c : Nat} {H : List (Nat × Fm)} (hH : HyC M 16 c H) : ∀ z j, j + z = H.length → ∀ M1, Fr (fun a i => a = 11 ∨ a = 12 ∨ a = 13 ∨ (a = 10 ∧ i = 3)) M M1 → HyC M1 10 c (H.take j) → ∃ M2, lp (st_X2_takeOver (k + 1)) (6, [.ref 10, .ref 16, .int (nI j)], M1) = some ((), M2) ∧ Fr (fun a i => a = 11 ∨ a = 12 ∨ a = 13 ∨ (a = 10 ∧ i = 3)) M M2 ∧ HyC M2 10 c H := by
  have h6 := hH.2.1
  intro z
  induction z with
  | zero =>
    intro j hj M1 hF hJ
    have hW1 := hF.Wd hW
    have e : H.take j = H := List.take_of_length_le (by omega)
    rw [e] at hJ
    refine ⟨M1, ?_, hF, hJ⟩
    have h3 : M1.2.2.1 16 3 = nI H.length := (hF.int (by omega)).trans hH.1
    refine (ge_X2_takeOver_6 (k + 1) 10 16 _ M1).trans ?_
    simp (disch := omega) only [T_X2_takeOver_6, W_16 hW1, gd_true, fO, fA, ex_in, bnd_s, bnd2_s, cal_s, Nat.reduceLT, true_and, and_true, and_self, nI_z, vp_iff, up2_if, Nat.reduceEqDiff, false_and, and_false, if_false, if_true, nI_1, nI_le_, nI_lt_, nI_lt0, nI_eq_, nI_add, h3]
    rw [if_pos (by omega)]
  | succ z ih =>
    intro j hj M1 hF hJ
    have hW1 := hF.Wd hW
    have hjl : j < H.length := by omega
    obtain ⟨v, g1, g2, g3, g4, g5, g6⟩ := hH.2.2 j hjl
    have h3 : M1.2.2.1 16 3 = nI H.length := (hF.int (by omega)).trans hH.1
    have i1 : M1.2.2.1 17 j = nI H[j].1 := (hF.int (by omega)).trans g2
    have i2 : M1.2.2.1 18 j = nI v := (hF.int (by omega)).trans g3
    have i3 : M1.2.2.1 19 j = nI (wdf H[j].2) := (hF.int (by omega)).trans g5
    have htl : (H.take j).length = j := by simp; omega
    have hj3 : M1.2.2.1 10 3 = nI j := by rw [hJ.1, htl]
    have ea := c_add10 hW1 k (j := j) hj3 (by omega) (nI H[j].1) (nI v) (nI (wdf H[j].2))
    have dv : dC M1 v = H[j].2 := by
      rw [← g4]
      unfold dC
      rw [hF.ints (a := 3) (by omega), hF.ints (a := 4) (by omega), hF.ints (a := 5) (by omega)]
    have hJ2 := hJ.add10 (by omega) (nm := H[j].1) (v := v) g1 g6
    rw [htl, dv] at hJ2
    obtain ⟨M2, e2, r⟩ := ih (j + 1) (by omega) (adM10 M1 j (nI H[j].1) (nI v) (nI (wdf H[j].2))) ((((hF.wI (by omega) _).wI (by omega) _).wI (by omega) _).wI (by omega) _) (by
      have : H.take (j + 1) = H.take j ++ [(H[j].1, H[j].2)] := by
        rw [List.take_succ_eq_append_getElem hjl]
      rw [this]
      exact hJ2)
    refine ⟨M2, ?_, r⟩
    rw [← e2]
    refine (ge_X2_takeOver_6 (k + 1) 10 16 _ M1).trans ?_
    simp (disch := omega) only [T_X2_takeOver_6, W_10 hW1, W_16 hW1, gd_true, fO, fA, ex_in, bnd_s, bnd2_s, cal_s, Nat.reduceLT, true_and, and_true, and_self, nI_z, vp_iff, up2_if, Nat.reduceEqDiff, false_and, and_false, if_false, if_true, nI_1, nI_le_, nI_lt_, nI_lt0, nI_eq_, nI_add, h3, i1, i2, i3, show (6 : Int32) = nI 6 from rfl, ea]
    rw [if_neg (by omega), if_neg (by omega), gd_pos (by omega), gd_pos (by omega), gd_pos (by omega)]
theorem c_takeOverH (hW : Wd M) (k : Nat) {c : Nat} {H : List (Nat × Fm)} (hH : HyC M 16 c H) : ∃ M1, f_X2_takeOver (k + 1) 10 16 M = some ((), M1) ∧ Fr (fun a i => a = 11 ∨ a = 12 ∨ a = 13 ∨ (a = 10 ∧ i = 3)) M M1 ∧ HyC M1 10 c H := by
  obtain ⟨M1, e, r⟩ := take_loop hW k hH H.length 0 (by omega) (wI M 10 3 0) (Fr.refl.wI (by omega) _) ⟨rfl, by simp, fun j hj => by simp at hj⟩
  refine ⟨M1, ?_, r⟩
  refine (ge_X2_takeOver_0 (k + 1) 10 16 M).trans ?_
  simp only [T_X2_takeOver_0, W_10 hW, gd_true, fO, fA, ex_in, bnd_s, bnd2_s, cal_s, Nat.reduceLT, true_and, and_true, and_self, nI_z, vp_iff, up2_if, Nat.reduceEqDiff, false_and, and_false, if_false, if_true, nI_1, nI_le_, nI_lt_, nI_lt0, nI_eq_, nI_add, c_clear10 hW k]
  exact e
end HC
