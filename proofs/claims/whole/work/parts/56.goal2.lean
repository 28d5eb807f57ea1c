/-! GOAL, the call itself, in class and reference -/
def SGo (a k : Nat) : Prop := SGr a k ∨ (a = 0 ∧ (k = 1 ∨ k = 16 ∨ k = 17))
section CG2
variable {M : Mem} {b : Nat → Nat}
set_option maxHeartbeats 4000000 in
theorem c_goal (hW : Wd M) {L : Nat} (hTp : TpC M b L) (hPw : PwC M) {c : Nat} (hT : TabC M c) (hc : c + 30 ≤ 5200) (k : Nat) (x : Int32) :
    ((∀ n, n ≤ L → x ≠ nI n) → f_X10_goal (k + 5) 0 x M = some (-3, M)) ∧ ∀ n, n ≤ L → x = nI n →
    ((∀ kd pl, gls b n = .inl (kd, pl) → ∃ c1 M1, f_X10_goal (k + 5) 0 x M = some (-30 - nI kd, M1) ∧ Fr SGo M M1 ∧ M1.2.2.1 0 1 = nI 0 ∧ M1.2.2.1 0 16 = M.2.2.1 0 16 ∧ M1.2.2.1 0 17 = M.2.2.1 0 17 ∧ M1.2.2.1 14 17 = nI kd ∧ M1.2.2.1 14 18 = nI pl ∧ c ≤ c1 ∧ 2 * c1 ≤ 2 * c + n + 1 ∧ TabC M1 c1 ∧ ∀ i, i < c → dC M1 i = dC M i) ∧
     (∀ l, gls b n = .inr l → ∃ f c1 M1, f_X10_goal (k + 5) 0 x M = some (nI l.length, M1) ∧ Fr SGo M M1 ∧ M1.2.2.1 0 1 = nI 0 ∧ M1.2.2.1 0 16 = nI f ∧ M1.2.2.1 0 17 = nI (l.length + l.count 12) ∧ M1.2.2.1 14 17 = 0 ∧ M1.2.2.1 14 18 = -1 ∧ f < c1 ∧ c ≤ c1 ∧ 2 * c1 ≤ 2 * c + n + 1 ∧ TabC M1 c1 ∧ (∀ i, i < c → dC M1 i = dC M i) ∧ some (dC M1 f) = (ev l)[0]? ∧ l.length ≤ 30 ∧ chk l 1)) := by
  obtain ⟨tA, tB⟩ := c_tapeLacks hW hTp.1 hTp.2.1 (k + 4) x
  refine ⟨fun h => ?_, fun n hn hx => ?_⟩
  · have e := tB h
    unfold f_X10_goal b_X10_goal
    simp only [T_X10_goal_0, W_0 hW, gd_true, fO, fA, ex_in, bnd_s, bnd2_s, cal_s, Nat.reduceLT, true_and, and_true, and_self, nI_z, vp_iff, up2_if, Nat.reduceEqDiff, false_and, and_false, if_false, if_true, nI_1, nI_le_, nI_lt_, nI_lt0, nI_eq_, nI_add, e, show ((1 : Int32) = 0) = False from eq_false (by decide)]
  · have e := tA n hn hx
    have h6 := hTp.2.1
    obtain ⟨gA, gB⟩ := c_readGoal (M := wI M 0 1 0) (b := b) (hW.wI _ _ _) (n := n) (by omega) hPw (fun i hi => hTp.2.2 i (by omega)) (c := c) hT k hc
    rw [← hx] at gA gB
    refine ⟨fun kd pl h => ?_, fun l h => ?_⟩
    · obtain ⟨c1, M1, y1, y2, y3, y4, y5, y6, y7, y8⟩ := gA kd pl h
      have hW1 := y2.Wd (hW.wI _ _ _)
      refine ⟨c1, M1, ?_, (Fr.refl.wI (a := 0) (k := 1) (by simp [SGo]) _).trans (y2.mono (fun a k h => Or.inl h)), y2.int (by simp [SGr, SRB, SRF, SF]), y2.int (by simp [SGr, SRB, SRF, SF]), y2.int (by simp [SGr, SRB, SRF, SF]), y3, y4, y5, y6, y7, y8⟩
      unfold f_X10_goal b_X10_goal
      simp only [T_X10_goal_0, W_0 hW, W_0 hW1, gd_true, fO, fA, ex_in, bnd_s, bnd2_s, cal_s, Nat.reduceLT, true_and, and_true, and_self, nI_z, vp_iff, up2_if, Nat.reduceEqDiff, false_and, and_false, if_false, if_true, nI_1, nI_le_, nI_lt_, nI_lt0, nI_eq_, nI_add, e, y1, y3]
    · obtain ⟨f, c1, M1, y1, y2, y3, y4, y5, y6, y7, y8, y9, y10, y11, y12, y13, y14⟩ := gB l h
      have hW1 := y2.Wd (hW.wI _ _ _)
      have hfm : (nI f = -1) = False := nI_ne_m1 (by have := y10.2.1; omega)
      have hT1 : TabC (wI (wI M1 0 16 (nI f)) 0 17 (nI (l.length + l.count 12))) c1 := y10
      refine ⟨f, c1, wI (wI M1 0 16 (nI f)) 0 17 (nI (l.length + l.count 12)), ?_, (((Fr.refl.wI (a := 0) (k := 1) (by simp [SGo]) _).trans (y2.mono (fun a k h => Or.inl h))).wI (by simp [SGo]) _).wI (by simp [SGo]) _, ?_, rfl, rfl, ?_, ?_, y7, y8, y9, hT1, y11, y12, y13, y14⟩
      · unfold f_X10_goal b_X10_goal
        simp only [T_X10_goal_0, W_0 hW, W_0 hW1, gd_true, fO, fA, ex_in, bnd_s, bnd2_s, cal_s, Nat.reduceLT, true_and, and_true, and_self, nI_z, vp_iff, up2_if, Nat.reduceEqDiff, false_and, and_false, if_false, if_true, nI_1, nI_le_, nI_lt_, nI_lt0, nI_eq_, nI_add, e, y1, hfm, y6, y5]
      · show M1.2.2.1 0 1 = _
        exact y2.int (by simp [SGr, SRB, SRF, SF])
      · exact y3
      · exact y4
/-! the reference; what tidies leaves is taken as told -/
def STd (a k : Nat) : Prop := (a = 89 ∧ (k = 7 ∨ k = 16)) ∨ (90 ≤ a ∧ a ≤ 95) ∨ a = 98 ∨ a = 103 ∨ a = 106
def SGR (a k : Nat) : Prop := SRR a k ∨ (a = 89 ∧ (k = 16 ∨ k = 27 ∨ k = 28 ∨ k = 32 ∨ k = 33))
theorem rx_isOver (hW : Wd M) {n : Nat} (hX : TxR M b n) (k : Nat) {p : Nat} (hp : M.2.2.1 89 29 = nI p) (hpn : p ≤ n) (h30 : M.2.2.1 89 30 = 0) :
    ∃ M1, Fr SP M M1 ∧ M1.2.2.1 89 29 = nI (tq b n p) ∧ (tq b n p = n → f_X11_isOver (k + 2) 89 M = some (1, M1)) ∧ (tq b n p ≠ n → f_X11_isOver (k + 2) 89 M = some (0, M1)) := by
  obtain ⟨M1, e, hF, hq⟩ := rx_blanks hW hX k hp hpn
  have hW1 := hF.Wd hW
  have hX1 := hX.fr hF (by simp [SP]) (by simp [SP])
  have h30' : M1.2.2.1 89 30 = 0 := (hF.int (by simp [SP])).trans h30
  have hle := tq_le b n p hpn
  have h6 := hX.2.1
  obtain ⟨pA, pB⟩ := rx_peek hW1 hX1 (k + 1) hq (by show skp b (n - p) p ≤ 600; have : tq b n p ≤ n := hle.2.1; have : skp b (n - p) p ≤ n := this; omega)
  refine ⟨M1, hF, hq, fun h => ?_, fun h => ?_⟩
  · have ep := pB (by omega)
    unfold f_X11_isOver b_X11_isOver
    simp only [T_X11_isOver_0, W_89 hW, W_89 hW1, gd_true, fO, fA, ex_in, bnd_s, bnd2_s, cal_s, Nat.reduceLT, true_and, and_true, and_self, nI_z, vp_iff, up2_if, Nat.reduceEqDiff, false_and, and_false, if_false, if_true, nI_1, nI_le_, nI_lt_, nI_lt0, nI_eq_, nI_add, e, h30', ep]
  · have ep := pA (by have : tq b n p ≤ n := hle.2.1; omega)
    have hb := (hX1.2.2 (tq b n p) (by have : tq b n p ≤ n := hle.2.1; omega)).1
    unfold f_X11_isOver b_X11_isOver
    simp only [T_X11_isOver_0, W_89 hW, W_89 hW1, gd_true, fO, fA, ex_in, bnd_s, bnd2_s, cal_s, Nat.reduceLT, true_and, and_true, and_self, nI_z, vp_iff, up2_if, Nat.reduceEqDiff, false_and, and_false, if_false, if_true, nI_1, nI_le_, nI_lt_, nI_lt0, nI_eq_, nI_add, e, h30', ep, nI_ne_m1 (show b (tq b n p) < 2147483648 by omega)]
theorem rx_settles (hW : Wd M) (k : Nat) : f_X11_settles k 89 M = some (M.2.2.1 89 30, wI (wI M 89 32 (M.2.2.1 89 30)) 89 33 (M.2.2.1 89 31)) := by
  unfold f_X11_settles b_X11_settles
  simp only [T_X11_settles_0, W_89 hW, gd_true, fO, fA, ex_in, bnd_s, bnd2_s, cal_s, Nat.reduceLT, true_and, and_true, and_self, nI_z, vp_iff, up2_if, Nat.reduceEqDiff, false_and, and_false, if_false, if_true, nI_1, nI_le_, nI_lt_, nI_lt0, nI_eq_, nI_add, Nat.reduceEqDiff]
theorem rx_inT (k : Nat) {L : Nat} (hL : L ≤ 600) (x : Int32) : (∀ n, n ≤ L → x = nI n → f_X11_isIn k (Int32.toInt64 x) 0 (Int32.toInt64 (nI L)) M = some (1, M)) ∧ ((∀ n, n ≤ L → x ≠ nI n) → f_X11_isIn k (Int32.toInt64 x) 0 (Int32.toInt64 (nI L)) M = some (0, M)) := by
  have hin := rx_isIn (M := M) k (Int32.toInt64 x) (Int32.toInt64 0) (Int32.toInt64 (nI L))
  rw [fa_wide_le, fa_wide_le] at hin
  have l0 : (0 : Int64) = Int32.toInt64 0 := by decide
  rw [l0]
  refine ⟨fun n hn e => hin.1 ?_, fun h => hin.2 (fun q => ?_)⟩
  · rw [e]
    exact ⟨nI_pos' (by omega), (nI_leI (by omega) (by omega)).mpr hn⟩
  · obtain ⟨j, hj, e⟩ := nI_of (x := x) (Int32.not_lt.mpr q.1)
    rw [e] at q
    exact h j ((nI_leI (by omega) (by omega)).mp q.2) e
theorem rx_begins (hW : Wd M) (k n : Nat) {M0 : Mem} (ht : f_X11_tidies k 89 M = some ((), M0)) (hW0 : Wd M0) : f_X11_begins (k + 1) 89 (nI n) M = some ((), wI (wI (wI (wI (wI M0 89 27 0) 89 28 (nI n)) 89 29 0) 89 30 0) 89 31 (-1)) := by
  unfold f_X11_begins b_X11_begins
  simp only [T_X11_begins_0, W_89 hW, W_89 hW0, gd_true, fO, fA, ex_in, bnd_s, bnd2_s, cal_s, Nat.reduceLT, true_and, and_true, and_self, nI_z, vp_iff, up2_if, Nat.reduceEqDiff, false_and, and_false, if_false, if_true, nI_1, nI_le_, nI_lt_, nI_lt0, nI_eq_, nI_add, ht]
set_option maxHeartbeats 8000000 in
theorem rx_goal (hW : Wd M) {L : Nat} (hTp : TpR M b L) (k : Nat) {M0 : Mem} {c : Nat} (ht : f_X11_tidies (k + 43) 89 (wI M 89 0 0) = some ((), M0)) (hF0 : Fr STd (wI M 89 0 0) M0) (hT : TabR M0 c) (hc : c + 100 ≤ 16384) (x : Int32) :
    ((∀ n, n ≤ L → x ≠ nI n) → f_X11_goal (k + 45) 89 x M = some (-3, wI M 89 0 0)) ∧ ∀ n, n ≤ L → x = nI n →
    ((∀ kd pl, gls b n = .inl (kd, pl) → ∃ c1 M1, f_X11_goal (k + 45) 89 x M = some (-30 - nI kd, M1) ∧ Fr SGR M0 M1 ∧ M1.2.2.1 89 27 = nI 0 ∧ M1.2.2.1 89 16 = M0.2.2.1 89 16 ∧ M1.2.2.1 89 32 = nI kd ∧ M1.2.2.1 89 33 = nI pl ∧ c ≤ c1 ∧ c1 ≤ c + 62 ∧ TabR M1 c1 ∧ ∀ i, i < c → dR M1 i = dR M0 i) ∧
     (∀ l, gls b n = .inr l → ∃ f c1 M1, f_X11_goal (k + 45) 89 x M = some (nI l.length, M1) ∧ Fr SGR M0 M1 ∧ M1.2.2.1 89 27 = nI 0 ∧ M1.2.2.1 89 16 = nI f ∧ M1.2.2.1 89 32 = 0 ∧ M1.2.2.1 89 33 = -1 ∧ f < c1 ∧ c ≤ c1 ∧ c1 ≤ c + 62 ∧ TabR M1 c1 ∧ (∀ i, i < c → dR M1 i = dR M0 i) ∧ some (dR M1 f) = (ev l)[0]?)) := by
  have h6 := hTp.2.1
  have hWt : Wd (wI M 89 0 0) := hW.wI _ _ _
  have hW0 := hF0.Wd hWt
  obtain ⟨iA, iB⟩ := rx_inT (M := wI M 89 0 0) (k + 44) h6 x
  have h27 : (wI M 89 0 0).2.2.1 89 27 = nI L := hTp.1
  refine ⟨fun h => ?_, fun n hn hx => ?_⟩
  · have e := iB h
    refine (ge_X11_goal_0 (k + 45) 89 x M).trans ?_
    simp only [T_X11_goal_0, W_89 hW, gd_true, fO, Nat.reduceLT, and_self, cal_s, bnd2_s, if_true, up2_if, Nat.reduceEqDiff, and_false, if_false, hTp.1, e]
  · have e := iA n hn hx
    have e1 := rx_begins hWt (k + 43) n ht hW0
    rw [← hx] at e1
    generalize hM3 : wI (wI (wI (wI (wI M0 89 27 0) 89 28 x) 89 29 0) 89 30 0) 89 31 (-1) = M3 at e1
    have F3 : Fr SGR M0 M3 := by
      rw [← hM3]
      exact ((((Fr.refl.wI (by simp [SGR]) _).wI (by simp [SGR]) _).wI (by simp [SGR, SRR]) _).wI (by simp [SGR, SRR]) _).wI (by simp [SGR, SRR]) _
    have hW3 := F3.Wd hW0
    have hX3 : TxR (wI M3 89 34 0) b n := by
      rw [← hM3]
      refine ⟨hx, by omega, fun i hi => ⟨(hTp.2.2 i (by omega)).1, ?_⟩⟩
      show M0.2.2.1 109 i = _
      rw [hF0.int (by simp [STd])]
      exact (hTp.2.2 i (by omega)).2
    have hT3 : TabR (wI M3 89 34 0) c := by rw [← hM3]; exact hT
    have hd3 : ∀ i, dR (wI M3 89 34 0) i = dR M0 i := fun i => by rw [← hM3]; rfl
    have h29 : (wI M3 89 34 0).2.2.1 89 29 = nI 0 := by rw [← hM3]; rfl
    have h30 : (wI M3 89 34 0).2.2.1 89 30 = 0 := by rw [← hM3]; rfl
    have h31 : (wI M3 89 34 0).2.2.1 89 31 = -1 := by rw [← hM3]; rfl
    have h27' : (wI M3 89 34 0).2.2.1 89 27 = nI 0 := by rw [← hM3]; rfl
    have h16' : (wI M3 89 34 0).2.2.1 89 16 = M0.2.2.1 89 16 := by rw [← hM3]; rfl
    have F4 : Fr SGR M0 (wI M3 89 34 0) := F3.wI (by simp [SGR, SRR]) _
    have hr := rrf_main (b := b) (n := n) 30 (k + 43) 0 0 c (wI M3 89 34 0) (by omega) (by omega) (Nat.zero_le _) (hW3.wI _ _ _) hX3 h29 h30 rfl hT3 (by omega)
    have hfr : ∀ v M1, f_X11_readFormula (k + 43) 89 (wI M3 89 34 0) = some (v, M1) → f_X11_formulaRead (k + 44) 89 M3 = some (v, M1) := by
      intro v M1 h
      unfold f_X11_formulaRead b_X11_formulaRead
      simp only [T_X11_formulaRead_0, W_89 hW3, gd_true, fO, Nat.reduceLT, and_self, cal_s, h, bnd2_s]
    have j55 : ∀ (v : Int32) (M' : Mem), Wd M' → lp (st_X11_goal (k + 45)) (55, [.ref 89, .int v], M') = if M'.2.2.1 89 30 = 0 then some (M'.2.2.1 89 34, wI (wI (wI M' 89 32 (M'.2.2.1 89 30)) 89 33 (M'.2.2.1 89 31)) 89 16 v) else some (-30 - M'.2.2.1 89 30, wI (wI M' 89 32 (M'.2.2.1 89 30)) 89 33 (M'.2.2.1 89 31)) := by
      intro v M' hW'
      refine (ge_X11_goal_55 (k + 45) 89 v M').trans ?_
      simp only [T_X11_goal_55, W_89 hW', gd_true, fO, Nat.reduceLT, and_self, cal_s, rx_settles hW' (k + 44), bnd2_s, up2_if, Nat.reduceEqDiff, and_false, if_false]
    unfold gls
    cases hs : scan b n 30 0 1 with
    | inl er =>
      rw [hs] at hr
      obtain ⟨v, M4, c1, x1, x2, x3, x4, x5, x6, x7, x8, -⟩ := hr
      have hW4 := (F4.trans (x2.mono (fun a k h => Or.inl h))).Wd hW0
      have hne : ¬ M4.2.2.1 89 30 = 0 := by
        rw [x3]
        have := scan_kd hs
        exact nI_ne0 (by omega) (by omega)
      refine ⟨fun kd pl h => ?_, fun l h => by cases h⟩
      cases h
      refine ⟨c1, wI (wI M4 89 32 (nI kd)) 89 33 (nI pl), ?_, ((F4.trans (x2.mono (fun a k h => Or.inl h))).wI (by simp [SGR]) _).wI (by simp [SGR]) _, (x2.int (by simp [SRR])).trans h27', (x2.int (by simp [SRR])).trans h16', rfl, rfl, x6, by omega, x5, fun i hi => (x8 i hi).trans (hd3 i)⟩
      refine (ge_X11_goal_0 (k + 45) 89 x M).trans ?_
      simp only [T_X11_goal_0, W_89 hW, W_89 hW3, W_89 hW4, gd_true, fO, Nat.reduceLT, and_self, cal_s, bnd2_s, up2_if, Nat.reduceEqDiff, and_false, hTp.1, e, show ((1 : Int32) = 0) = False from eq_false (by decide), if_false, e1, hfr 0 M4 x1, hne]
      rw [j55 0 M4 hW4, if_neg hne, x3, x4]
    | inr q =>
      rw [hs] at hr
      obtain ⟨f, M4, c1, x1, x2, x3, x4, x5, x6, x7, x8, x9, x10, x11, x12⟩ := hr
      have hlen := scan_len (l := q.1) (q := q.2) hs
      have hq := (scan_chk (l := q.1) (q := q.2) (Nat.zero_le _) hs).2
      have F5 := F4.trans (x2.mono (T := SGR) (fun a k h => Or.inl h))
      have hW4 := F5.Wd hW0
      have hX4 := hX3.fr x2 (by simp [SRR]) (by simp [SRR])
      obtain ⟨M5, oF, o29, oA, oB⟩ := rx_isOver hW4 hX4 (k + 42) x5 hq x3
      have hW5 := oF.Wd hW4
      have g30 : M5.2.2.1 89 30 = 0 := (oF.int (by simp [SP])).trans x3
      have F6 := F5.trans (oF.mono (T := SGR) (fun a k h => Or.inl (SP_SRR a k h)))
      obtain ⟨t5, d5⟩ := x7.fr oF (by simp [SP]) (by simp [SP]) (by simp [SP]) (by simp [SP]) (by simp [SP]) (by simp [SP])
      refine ⟨fun kd pl h => ?_, fun l h => ?_⟩
      · have h : (if tq b n q.2 = n then Sum.inr q.1 else Sum.inl (1, tq b n q.2)) = Sum.inl (kd, pl) := h
        by_cases hend : tq b n q.2 = n
        · rw [if_pos hend] at h
          cases h
        · rw [if_neg hend] at h
          cases h
          have ef := (rx_fails hW5 (k + 44) 1 (nI (tq b n q.2))).1 g30
          refine ⟨c1, wI (wI (wI (wI M5 89 30 1) 89 31 (nI (tq b n q.2))) 89 32 1) 89 33 (nI (tq b n q.2)), ?_, (((F6.wI (by simp [SGR, SRR]) _).wI (by simp [SGR, SRR]) _).wI (by simp [SGR]) _).wI (by simp [SGR]) _, (oF.int (by simp [SP])).trans ((x2.int (by simp [SRR])).trans h27'), (oF.int (by simp [SP])).trans ((x2.int (by simp [SRR])).trans h16'), rfl, rfl, x8, by have : c1 ≤ c + 2 * q.1.length := x9; omega, t5, fun i hi => (d5 i).trans ((x10 i hi).trans (hd3 i))⟩
          refine (ge_X11_goal_0 (k + 45) 89 x M).trans ?_
          simp only [T_X11_goal_0, W_89 hW, W_89 hW3, W_89 hW4, W_89 hW5, gd_true, fO, Nat.reduceLT, and_self, cal_s, bnd2_s, up2_if, Nat.reduceEqDiff, and_false, hTp.1, e, show ((1 : Int32) = 0) = False from eq_false (by decide), if_false, e1, hfr _ M4 x1, x3, if_true, oB hend, o29, ef]
          rw [j55 _ _ ((hW5.wI _ _ _).wI _ _ _)]
          rfl
      · have h : (if tq b n q.2 = n then Sum.inr q.1 else Sum.inl (1, tq b n q.2)) = Sum.inr l := h
        by_cases hend : tq b n q.2 = n
        · rw [if_pos hend] at h
          cases h
          have g31 : M5.2.2.1 89 31 = -1 := (oF.int (by simp [SP])).trans (x4.trans h31)
          have g34 : M5.2.2.1 89 34 = nI q.1.length := by
            rw [oF.int (by simp [SP]), x6, Nat.zero_add]
          refine ⟨f, c1, wI (wI (wI M5 89 32 0) 89 33 (-1)) 89 16 (nI f), ?_, ((F6.wI (by simp [SGR]) _).wI (by simp [SGR]) _).wI (by simp [SGR]) _, (oF.int (by simp [SP])).trans ((x2.int (by simp [SRR])).trans h27'), rfl, rfl, rfl, x11, x8, by have : c1 ≤ c + 2 * q.1.length := x9; omega, t5, fun i hi => (d5 i).trans ((x10 i hi).trans (hd3 i)), ?_⟩
          · refine (ge_X11_goal_0 (k + 45) 89 x M).trans ?_
            simp only [T_X11_goal_0, W_89 hW, W_89 hW3, W_89 hW4, W_89 hW5, gd_true, fO, Nat.reduceLT, and_self, cal_s, bnd2_s, up2_if, Nat.reduceEqDiff, and_false, hTp.1, e, show ((1 : Int32) = 0) = False from eq_false (by decide), if_false, e1, hfr _ M4 x1, x3, if_true, oA hend]
            rw [j55 _ _ hW5, if_pos g30, g34, g30, g31]
          · show some (dR M5 f) = _
            rw [d5]
            exact x12
        · rw [if_neg hend] at h
          cases h
end CG2
