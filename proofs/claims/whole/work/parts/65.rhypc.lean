/-! HYPOTHESES, the call, in the reference -/
section RHC
variable {M : Mem} {b : Nat → Nat} {n : Nat}
theorem rx_blanksX (hW : Wd M) (hX : TxR M b n) (k : Nat) {p : Nat} (hp : M.2.2.1 89 29 = nI p) (hpn : p ≤ n + 1) : ∃ M1, f_X11_blanks (k + 1) 89 M = some ((), M1) ∧ Fr SP M M1 := by
  have h6 := hX.2.1
  by_cases h : p ≤ n
  · obtain ⟨M1, a, c, -⟩ := rx_blanks hW hX k hp h
    exact ⟨M1, a, c⟩
  · refine ⟨M, ?_, Fr.refl⟩
    refine (ge_X11_blanks_0 (k + 1) 89 M).trans ?_
    have e : f_X11_peek k 89 M = some (-1, M) := by
      unfold f_X11_peek b_X11_peek
      simp (disch := omega) only [T_X11_peek_0, W_89 hW, gd_true, fO, Nat.reduceLT, and_self, hX.1, hp, nI_le_]
      rw [if_pos (by omega)]
    simp only [T_X11_blanks_0, W_89 hW, gd_true, fO, Nat.reduceLT, and_self, cal_s, e, bnd2_s, show ((-1 : Int32) = 32) = False from eq_false (by decide), if_false]
theorem rx_isOverW (hW : Wd M) (hX : TxR M b n) (k : Nat) {p : Nat} (hp : M.2.2.1 89 29 = nI p) (hpn : p ≤ n + 1) (h30 : ¬ M.2.2.1 89 30 = 0) : ∃ M1, f_X11_isOver (k + 2) 89 M = some (1, M1) ∧ Fr SP M M1 := by
  obtain ⟨M1, e, hF⟩ := rx_blanksX hW hX k hp hpn
  have hW1 := hF.Wd hW
  have h30' : ¬ M1.2.2.1 89 30 = 0 := by rw [hF.int (by simp [SP])]; exact h30
  refine ⟨M1, ?_, hF⟩
  unfold f_X11_isOver b_X11_isOver
  simp only [T_X11_isOver_0, W_89 hW, W_89 hW1, gd_true, fO, Nat.reduceLT, and_self, cal_s, e, bnd2_s, h30', if_false]
def SRi (a k : Nat) : Prop := SRh a k ∨ (a = 89 ∧ (k = 15 ∨ k = 32 ∨ k = 33))
/-- what the loop of hypotheses comes to, in the reference -/
def HrEnd (M : Mem) (k c B : Nat) (r : (Nat × Nat) ⊕ List (Nat × List Nat)) : Prop := match r with
  | .inl e => ∃ c1 M1, lp (st_X11_hypotheses (k + 47)) (32, [.ref 89], M) = some (-30 - nI e.1, M1) ∧ Fr SRi M M1 ∧ M1.2.2.1 89 32 = nI e.1 ∧ M1.2.2.1 89 33 = nI e.2 ∧ M1.2.2.1 89 15 = M.2.2.1 89 15 ∧ c ≤ c1 ∧ c1 ≤ B ∧ TabR M1 c1 ∧ ∀ i, i < c → dR M1 i = dR M i
  | .inr acc => ∃ c1 M1, lp (st_X11_hypotheses (k + 47)) (32, [.ref 89], M) = lp (st_X11_hypotheses (k + 47)) (71, [.ref 89, .int (nI 0)], M1) ∧ Fr SRi M M1 ∧ M1.2.2.1 89 32 = 0 ∧ M1.2.2.1 89 33 = M.2.2.1 89 31 ∧ M1.2.2.1 89 15 = nI acc.length ∧ c ≤ c1 ∧ c1 ≤ B ∧ TabR M1 c1 ∧ (∀ i, i < c → dR M1 i = dR M i) ∧ HyR M1 35 99 100 101 c1 (hyL acc)
set_option maxHeartbeats 8000000 in
theorem rhyp_loop (k : Nat) : ∀ (z p c : Nat) (acc : List (Nat × List Nat)) (M : Mem), acc.length + z = 6 → p ≤ n → Wd M → TxR M b n → M.2.2.1 89 29 = nI p → M.2.2.1 89 30 = 0 → TabR M c → HyR M 35 99 100 101 c (hyL acc) → c + 62 * (z + 1) + 100 ≤ 16384 → HrEnd M k c (c + 62 * (z + 1)) (rdH b n (z + 1) p acc) := by
  -- the end: nothing more comes
  have over : ∀ (z p c : Nat) (acc : List (Nat × List Nat)) (M : Mem), p ≤ n → Wd M → TxR M b n → M.2.2.1 89 29 = nI p → M.2.2.1 89 30 = 0 → TabR M c → HyR M 35 99 100 101 c (hyL acc) → tq b n p = n → HrEnd M k c (c + 62 * (z + 1)) (.inr acc) := by
    intro z p c acc M hp hW hX h29 h30 hT hH hend
    obtain ⟨M1, oF, o29, oA, -⟩ := rx_isOver hW hX (k + 44) h29 hp h30
    have hW1 := oF.Wd hW
    have g30 : M1.2.2.1 89 30 = 0 := (oF.int (by simp [SP])).trans h30
    have g31 : M1.2.2.1 89 31 = M.2.2.1 89 31 := oF.int (by simp [SP])
    have g35 : M1.2.2.1 89 35 = nI acc.length := by rw [oF.int (by simp [SP]), hH.1, hyL_len]
    obtain ⟨t1, t2⟩ := hT.fr oF (by simp [SP]) (by simp [SP]) (by simp [SP]) (by simp [SP]) (by simp [SP]) (by simp [SP])
    have hH1 : HyR M1 35 99 100 101 c (hyL acc) := hH.fr (oF.int (by simp [SP])) (oF.ints (by simp [SP])) (oF.ints (by simp [SP])) (oF.ints (by simp [SP])) (Nat.le_refl _) (fun i _ => t2 i)
    refine ⟨c, wI (wI (wI M1 89 32 0) 89 33 (M.2.2.1 89 31)) 89 15 (nI acc.length), ?_, (((oF.mono (T := SRi) (fun a k h => Or.inl (SP_SRh a k h))).wI (by simp [SRi]) _).wI (by simp [SRi]) _).wI (by simp [SRi]) _, rfl, rfl, rfl, Nat.le_refl _, by omega, (t1 : TabR _ c), fun i _ => t2 i, (hH1 : HyR _ 35 99 100 101 c (hyL acc))⟩
    refine (ge_X11_hypotheses_32 (k + 47) 89 M).trans ?_
    simp only [T_X11_hypotheses_32, W_89 hW, W_89 hW1, gd_true, fO, Nat.reduceLT, and_self, cal_s, oA hend, bnd2_s, show ((1 : Int32) = 0) = False from eq_false (by decide), if_false, rx_settles hW1 (k + 46), g30, if_true, up2_if, Nat.reduceEqDiff, and_false, g35, g31]
    rfl
  -- one more
  have one : ∀ (p c : Nat) (acc : List (Nat × List Nat)) (M : Mem), p ≤ n → Wd M → TxR M b n → M.2.2.1 89 29 = nI p → M.2.2.1 89 30 = 0 → TabR M c → HyR M 35 99 100 101 c (hyL acc) → c + 100 ≤ 16384 → tq b n p ≠ n → 
      (∀ e, hy1 b n p (acc.map Prod.fst) = .inl e → HrEnd M k c (c + 62) (.inl e)) ∧ (∀ q, hy1 b n p (acc.map Prod.fst) = .inr q → ∃ c1 M1, lp (st_X11_hypotheses (k + 47)) (32, [.ref 89], M) = lp (st_X11_hypotheses (k + 47)) (32, [.ref 89], M1) ∧ Fr SRi M M1 ∧ M1.2.2.1 89 30 = 0 ∧ M1.2.2.1 89 31 = M.2.2.1 89 31 ∧ M1.2.2.1 89 15 = M.2.2.1 89 15 ∧ M1.2.2.1 89 29 = nI q.2 ∧ q.2 ≤ n ∧ c ≤ c1 ∧ c1 ≤ c + 62 ∧ TabR M1 c1 ∧ (∀ i, i < c → dR M1 i = dR M i) ∧ HyR M1 35 99 100 101 c1 (hyL (acc ++ [(nmAt b n p, q.1)]))) := by
    intro p c acc M hp hW hX h29 h30 hT hH hroom hend
    have hle := tq_le b n p hp
    obtain ⟨M1, oF, o29, -, oB⟩ := rx_isOver hW hX (k + 44) h29 hp h30
    have hW1 := oF.Wd hW
    have hX1 := hX.fr oF (by simp [SP]) (by simp [SP])
    have g30 : M1.2.2.1 89 30 = 0 := (oF.int (by simp [SP])).trans h30
    have g31 : M1.2.2.1 89 31 = M.2.2.1 89 31 := oF.int (by simp [SP])
    obtain ⟨t1, t2⟩ := hT.fr oF (by simp [SP]) (by simp [SP]) (by simp [SP]) (by simp [SP]) (by simp [SP]) (by simp [SP])
    have hH1 : HyR M1 35 99 100 101 c (hyL acc) := hH.fr (oF.int (by simp [SP])) (oF.ints (by simp [SP])) (oF.ints (by simp [SP])) (oF.ints (by simp [SP])) (Nat.le_refl _) (fun i _ => t2 i)
    have tqq := tq_tq b n p hp
    have hh1 : hy1 b n (tq b n p) ((hyL acc).map Prod.fst) = hy1 b n p (acc.map Prod.fst) := by
      rw [hyL_fst]
      unfold hy1 isN nmAt tw
      rw [tqq.1, tqq.2]
    have hr := rx_readHyp hW1 hX1 k (p := tq b n p) hle.2.1 o29 g30 (by rw [tqq.1]; exact hend) t1 hH1 hroom
    rw [hh1] at hr
    have hnm : nmAt b n (tq b n p) = nmAt b n p := by unfold nmAt; rw [tqq.1, tqq.2]
    rw [hnm] at hr
    have head : ∀ M2, f_X11_readHypothesis (k + 46) 89 M1 = some ((), M2) → lp (st_X11_hypotheses (k + 47)) (32, [.ref 89], M) = lp (st_X11_hypotheses (k + 47)) (32, [.ref 89], M2) := by
      intro M2 h
      refine (ge_X11_hypotheses_32 (k + 47) 89 M).trans ?_
      simp only [T_X11_hypotheses_32, W_89 hW, W_89 hW1, gd_true, fO, Nat.reduceLT, and_self, cal_s, oB hend, bnd2_s, if_true, h]
    have F1 : Fr SRi M M1 := oF.mono (fun a k h => Or.inl (SP_SRh a k h))
    refine ⟨fun e he => ?_, fun q he => ?_⟩
    · rw [he] at hr
      obtain ⟨c1, M2, x1, x2, x3, x4, x5, x6, x7, x8, x9, p', x10, x11⟩ := hr
      have hW2 := x2.Wd hW1
      have hX2 := hX1.fr x2 (by simp [SRh, SRR]) (by simp [SRh, SRR])
      have hne : ¬ M2.2.2.1 89 30 = 0 := by rw [x3]; exact nI_ne0 (by omega) (by omega)
      obtain ⟨M3, w1, w2⟩ := rx_isOverW hW2 hX2 (k + 44) x10 x11 hne
      have hW3 := w2.Wd hW2
      have y30 : M3.2.2.1 89 30 = nI e.1 := (w2.int (by simp [SP])).trans x3
      have y31 : M3.2.2.1 89 31 = nI e.2 := (w2.int (by simp [SP])).trans x4
      have hne3 : (nI e.1 = 0) = False := eq_false (nI_ne0 (by omega) (by omega))
      obtain ⟨t3, t4⟩ := x8.fr w2 (by simp [SP]) (by simp [SP]) (by simp [SP]) (by simp [SP]) (by simp [SP]) (by simp [SP])
      refine ⟨c1, wI (wI M3 89 32 (nI e.1)) 89 33 (nI e.2), ?_, (((F1.trans (x2.mono (fun a k h => Or.inl h))).trans (w2.mono (fun a k h => Or.inl (SP_SRh a k h)))).wI (by simp [SRi]) _).wI (by simp [SRi]) _, rfl, rfl, (w2.int (a := 89) (k := 15) (by simp [SP])).trans ((x2.int (by simp [SRh, SRR])).trans (oF.int (by simp [SP]))), x6, x7, (t3 : TabR _ c1), fun i hi => (t4 i).trans ((x9 i hi).trans (t2 i))⟩
      rw [head M2 x1]
      refine (ge_X11_hypotheses_32 (k + 47) 89 M2).trans ?_
      simp only [T_X11_hypotheses_32, W_89 hW2, W_89 hW3, gd_true, fO, Nat.reduceLT, and_self, cal_s, w1, bnd2_s, show ((1 : Int32) = 0) = False from eq_false (by decide), if_false, rx_settles hW3 (k + 46), y30, y31, hne3, up2_if, Nat.reduceEqDiff, and_false]
    · rw [he] at hr
      obtain ⟨c1, M2, x1, x2, x3, x4, x5, x6, x7, x8, x9, x10, x11, x12⟩ := hr
      rw [hyL_app]
      exact ⟨c1, M2, head M2 x1, F1.trans (x2.mono (fun a k h => Or.inl h)), x3, x4.trans g31, (x2.int (by simp [SRh, SRR])).trans (oF.int (by simp [SP])), x5, x6, x8, x9, x10, fun i hi => (x11 i hi).trans (t2 i), x12⟩
  intro z
  induction z with
  | zero =>
    intro p c acc M ha hp hW hX h29 h30 hT hH hroom
    unfold rdH
    by_cases hend : tq b n p = n
    · rw [if_pos hend]
      exact over 0 p c acc M hp hW hX h29 h30 hT hH hend
    · rw [if_neg hend]
      obtain ⟨oA, oB⟩ := one p c acc M hp hW hX h29 h30 hT hH (by omega) hend
      cases hh : hy1 b n p (acc.map Prod.fst) with
      | inl e => exact oA e hh
      | inr q =>
        have := hy1_len hh
        rw [List.length_map] at this
        omega
  | succ z ih =>
    intro p c acc M ha hp hW hX h29 h30 hT hH hroom
    show HrEnd M k c (c + 62 * (z + 1 + 1)) (if tq b n p = n then .inr acc else match hy1 b n p (acc.map Prod.fst) with
      | .inl e => .inl e
      | .inr q => rdH b n (z + 1) q.2 (acc ++ [(nmAt b n p, q.1)]))
    by_cases hend : tq b n p = n
    · rw [if_pos hend]
      exact over (z + 1) p c acc M hp hW hX h29 h30 hT hH hend
    · rw [if_neg hend]
      obtain ⟨oA, oB⟩ := one p c acc M hp hW hX h29 h30 hT hH (by omega) hend
      cases hh : hy1 b n p (acc.map Prod.fst) with
      | inl e =>
        obtain ⟨c1, M1, x1, x2, x3, x4, x5, x6, x7, x8⟩ := oA e hh
        exact ⟨c1, M1, x1, x2, x3, x4, x5, x6, by omega, x8⟩
      | inr q =>
        obtain ⟨c1, M1, x1, x2, x3, x4, x5, x6, x7, x8, x9, x10, x11, x12⟩ := oB q hh
        have hW1 := x2.Wd hW
        have hX1 := hX.fr x2 (by simp [SRi, SRh, SRR]) (by simp [SRi, SRh, SRR])
        have := ih q.2 c1 (acc ++ [(nmAt b n p, q.1)]) M1 (by simp; omega) x7 hW1 hX1 x6 x3 x10 x12 (by omega)
        show HrEnd M k c (c + 62 * (z + 1 + 1)) (rdH b n (z + 1) q.2 (acc ++ [(nmAt b n p, q.1)]))
        cases hd : rdH b n (z + 1) q.2 (acc ++ [(nmAt b n p, q.1)]) with
        | inl e =>
          rw [hd] at this
          obtain ⟨c2, M2, y1, y2, y3, y4, y5, y6, y7, y8, y9⟩ := this
          exact ⟨c2, M2, x1.trans y1, x2.trans y2, y3, y4, y5.trans x5, by omega, by omega, y8, fun i hi => (y9 i (by omega)).trans (x11 i hi)⟩
        | inr a2 =>
          rw [hd] at this
          obtain ⟨c2, M2, y1, y2, y3, y4, y5, y6, y7, y8, y9, y10⟩ := this
          exact ⟨c2, M2, x1.trans y1, x2.trans y2, y3, y4.trans x4, y5, by omega, by omega, y8, fun i hi => (y9 i (by omega)).trans (x11 i hi), y10⟩
end RHC
