/-! GOAL, in the class -/
noncomputable def gls (b : Nat → Nat) (n : Nat) : (Nat × Nat) ⊕ List Nat := match scan b n 30 0 1 with
  | .inl e => .inl e
  | .inr q => if tq b n q.2 = n then .inr q.1 else .inl (1, tq b n q.2)
theorem cod_end (b : Nat → Nat) (n p : Nat) (hp : p ≤ n) : cod b n p = -3 ↔ tq b n p = n := by
  constructor
  · intro h
    rcases tw_is b n p hp with ⟨t1, t2, t3, -⟩ | ⟨t1, t2, t3⟩
    · rw [t3] at h
      have : (nI (tw b n p)).toInt = (-3 : Int32).toInt := by rw [h]
      rw [nI_toInt (by omega)] at this
      have e : (-3 : Int32).toInt = -3 := rfl
      omega
    · by_cases q : tq b n p = n
      · exact q
      · unfold cod at h
        rw [if_neg q] at h
        split at h
        · exact absurd h (by decide)
        · split at h
          · rw [t2] at h
            exact absurd h (by decide)
          · exact absurd h (by decide)
  · intro h
    unfold cod
    rw [if_pos h]
theorem TabC.fr {M M1 : Mem} {c : Nat} {S : Nat → Nat → Prop} (h : TabC M c) (hf : Fr S M M1) (h0 : ¬ S 2 7) (h3 : ∀ k, ¬ S 3 k) (h4 : ∀ k, ¬ S 4 k) (h5 : ∀ k, ¬ S 5 k) (h6 : ∀ k, ¬ S 6 k) (h7 : ∀ k, ¬ S 7 k) (h9 : ∀ k, ¬ S 9 k) : TabC M1 c ∧ ∀ i, dC M1 i = dC M i := by
  have i2 := hf.int h0
  have i3 := hf.ints h3
  have i4 := hf.ints h4
  have i5 := hf.ints h5
  have i6 := hf.lngs h6
  have i7 := hf.ints h7
  have i9 := hf.ints h9
  constructor
  · unfold TabC HC dC at h ⊢
    rw [i2, i3, i4, i5, i6, i7, i9]
    exact h
  · intro i
    unfold dC
    rw [i3, i4, i5]
section CG
variable {M : Mem} {b : Nat → Nat}
theorem c_tapeLacks (hW : Wd M) {L : Nat} (hL : M.2.2.1 0 1 = nI L) (h6 : L ≤ 600) (k : Nat) (x : Int32) : (∀ n, n ≤ L → x = nI n → f_X10_tapeLacks k 0 x M = some (0, M)) ∧ ((∀ n, n ≤ L → x ≠ nI n) → f_X10_tapeLacks k 0 x M = some (1, M)) := by
  unfold f_X10_tapeLacks b_X10_tapeLacks
  constructor
  · intro n hn e
    subst e
    simp (disch := omega) only [T_X10_tapeLacks_0, W_0 hW, gd_true, fO, fA, ex_in, bnd_s, bnd2_s, cal_s, Nat.reduceLT, true_and, and_true, and_self, nI_z, vp_iff, up2_if, Nat.reduceEqDiff, false_and, and_false, if_false, if_true, nI_1, nI_le_, nI_lt_, nI_lt0, nI_eq_, nI_add, hL, hn]
  · intro h
    by_cases h0 : x < 0
    · simp only [T_X10_tapeLacks_0, h0, if_true]
    · obtain ⟨j, hj, rfl⟩ := nI_of h0
      have hjL : ¬ j ≤ L := fun q => h j q rfl
      simp (disch := omega) only [T_X10_tapeLacks_0, W_0 hW, gd_true, fO, fA, ex_in, bnd_s, bnd2_s, cal_s, Nat.reduceLT, true_and, and_true, and_self, nI_z, vp_iff, up2_if, Nat.reduceEqDiff, false_and, and_false, if_false, if_true, nI_1, nI_le_, nI_lt_, nI_lt0, nI_eq_, nI_add, hL, hjL]
theorem c_begin (hW : Wd M) (k : Nat) {n : Nat} (hn : n ≤ 600) : f_X6_begin (k + 1) 14 (nI n) M = some ((), wI (wI (wI (wI M 14 10 (nI n)) 14 11 0) 14 17 0) 14 18 (-1)) := by
  unfold f_X6_begin b_X6_begin
  have e : aLen M 1 = some 600 := by simp [aLen, W_0 hW]
  simp (disch := omega) only [T_X6_begin_0, W_14 hW, gd_true, fO, Nat.reduceLT, and_self, bnd_s, e, show Int32.ofNat 600 = nI 600 from rfl, nI_lt_, show (1 ≤ k + 1) = True from eq_true (by omega)]
  rw [if_neg (by omega)]
def SE (a k : Nat) : Prop := a = 14 ∧ (k = 11 ∨ k = 12 ∨ k = 13 ∨ k = 14 ∨ k = 17 ∨ k = 18)
theorem SA_SE : ∀ a k, SA a k → SE a k := fun a k h => ⟨h.1, by have := h.2; omega⟩
theorem c_readEnd (hW : Wd M) {n : Nat} (hX : TxC M b n) (k : Nat) {p : Nat} (hp : p ≤ n) (h11 : M.2.2.1 14 11 = nI p) :
    (tq b n p = n → ∃ M1, f_X6_readEnd (k + 2) 14 M = some (1, M1) ∧ Fr SA M M1) ∧
    (tq b n p ≠ n → ∃ M1, f_X6_readEnd (k + 2) 14 M = some (0, M1) ∧ Fr SE M M1 ∧ M1.2.2.1 14 17 = nI 1 ∧ M1.2.2.1 14 18 = nI (tq b n p)) := by
  obtain ⟨M5, a1, a2, a3, a4, a5, a6⟩ := c_advance hW hX k hp h11
  have hW5 := a2.Wd hW
  constructor
  · intro h
    refine ⟨M5, ?_, a2⟩
    unfold f_X6_readEnd b_X6_readEnd
    simp only [T_X6_readEnd_0, W_14 hW, W_14 hW5, gd_true, fO, fA, ex_in, bnd_s, bnd2_s, cal_s, Nat.reduceLT, true_and, and_true, and_self, nI_z, vp_iff, up2_if, Nat.reduceEqDiff, false_and, and_false, if_false, if_true, nI_1, nI_le_, nI_lt_, nI_lt0, nI_eq_, nI_add, a1, a5, (cod_end b n p hp).mpr h]
  · intro h
    have hne : (cod b n p = -3) = False := eq_false (fun q => h ((cod_end b n p hp).mp q))
    have f1 := c_fail hW5 (k + 1) 1 (nI (tq b n p))
    refine ⟨wI (wI M5 14 17 1) 14 18 (nI (tq b n p)), ?_, ((a2.mono SA_SE).wI (by simp [SE]) _).wI (by simp [SE]) _, rfl, rfl⟩
    unfold f_X6_readEnd b_X6_readEnd
    simp only [T_X6_readEnd_0, W_14 hW, W_14 hW5, gd_true, fO, fA, ex_in, bnd_s, bnd2_s, cal_s, Nat.reduceLT, true_and, and_true, and_self, nI_z, vp_iff, up2_if, Nat.reduceEqDiff, false_and, and_false, if_false, if_true, nI_1, nI_le_, nI_lt_, nI_lt0, nI_eq_, nI_add, a1, a5, hne, a3, f1]
def SGr (a k : Nat) : Prop := SRB a k ∨ (a = 14 ∧ k = 10)
theorem SE_SGr : ∀ a k, SE a k → SGr a k := fun a k h => Or.inl (Or.inl (Or.inl h))
set_option maxHeartbeats 4000000 in
/-- READ GOAL: the text's first n bytes are one formula -/
theorem c_readGoal (hW : Wd M) {n : Nat} (hn : n ≤ 600) (hPw : PwC M) (hb : ∀ i, i < n → b i < 256 ∧ M.2.2.1 1 i = nI (b i)) {c : Nat} (hT : TabC M c) (k : Nat) (hc : c + 30 ≤ 5200) :
    (∀ kd pl, gls b n = .inl (kd, pl) → ∃ c1 M1, f_X6_readGoal (k + 4) 14 (nI n) M = some (-1, M1) ∧ Fr SGr M M1 ∧ M1.2.2.1 14 17 = nI kd ∧ M1.2.2.1 14 18 = nI pl ∧ c ≤ c1 ∧ 2 * c1 ≤ 2 * c + n + 1 ∧ TabC M1 c1 ∧ ∀ i, i < c → dC M1 i = dC M i) ∧
    (∀ l, gls b n = .inr l → ∃ f c1 M1, f_X6_readGoal (k + 4) 14 (nI n) M = some (nI f, M1) ∧ Fr SGr M M1 ∧ M1.2.2.1 14 17 = 0 ∧ M1.2.2.1 14 18 = -1 ∧ M1.2.2.1 14 15 = nI l.length ∧ M1.2.2.1 14 16 = nI (l.length + l.count 12) ∧ f < c1 ∧ c ≤ c1 ∧ 2 * c1 ≤ 2 * c + n + 1 ∧ TabC M1 c1 ∧ (∀ i, i < c → dC M1 i = dC M i) ∧ some (dC M1 f) = (ev l)[0]? ∧ l.length ≤ 30 ∧ chk l 1) := by
  have e0 := c_begin hW (k + 2) hn
  generalize hM3 : wI (wI (wI (wI M 14 10 (nI n)) 14 11 0) 14 17 0) 14 18 (-1) = M3 at e0
  have F3 : Fr SGr M M3 := by
    rw [← hM3]
    exact (((Fr.refl.wI (Or.inr ⟨rfl, rfl⟩) _).wI (by simp [SGr, SRB, SRF]) _).wI (by simp [SGr, SRB, SRF]) _).wI (by simp [SGr, SRB, SRF]) _
  have hW3 := F3.Wd hW
  have hX3 : TxC M3 b n := by
    rw [← hM3]
    exact ⟨rfl, hn, hPw, hb⟩
  have hT3 : TabC M3 c ∧ ∀ i, dC M3 i = dC M i := by
    rw [← hM3]
    exact ⟨hT, fun _ => rfl⟩
  have h11 : M3.2.2.1 14 11 = nI 0 := by rw [← hM3]; rfl
  have h17 : M3.2.2.1 14 17 = 0 := by rw [← hM3]; rfl
  have h18 : M3.2.2.1 14 18 = -1 := by rw [← hM3]; rfl
  obtain ⟨rA, rB⟩ := c_readFormula hW3 hX3 hT3.1 k (p := 0) (Nat.zero_le _) h11 hc
  unfold gls
  cases hs : scan b n 30 0 1 with
  | inl e =>
    refine ⟨fun kd pl h => ?_, fun l h => by cases h⟩
    cases h
    obtain ⟨M1, x1, x2, x3, x4⟩ := rA kd pl hs
    obtain ⟨t1, t2⟩ := hT3.1.fr x2 (by simp [SRF]) (by simp [SRF]) (by simp [SRF]) (by simp [SRF]) (by simp [SRF]) (by simp [SRF]) (by simp [SRF])
    refine ⟨c, M1, ?_, F3.trans (x2.mono (fun a k h => Or.inl (Or.inl h))), x3, x4, Nat.le_refl _, by omega, t1, fun i _ => (t2 i).trans (hT3.2 i)⟩
    unfold f_X6_readGoal b_X6_readGoal
    simp only [T_X6_readGoal_0, W_14 hW, W_14 hW3, gd_true, fO, fA, ex_in, bnd_s, bnd2_s, cal_s, Nat.reduceLT, true_and, and_true, and_self, nI_z, vp_iff, up2_if, Nat.reduceEqDiff, false_and, and_false, if_false, if_true, nI_1, nI_le_, nI_lt_, nI_lt0, nI_eq_, nI_add, e0, x1]
  | inr q =>
    obtain ⟨f, c1, M1, x1, x2, x3, x4, x5, x6, x7, x8, x9, x10, x11, x12, x13⟩ := rB q.1 q.2 hs
    have hW1 := x2.Wd hW3
    have hq := (scan_chk (l := q.1) (q := q.2) (Nat.zero_le _) hs).2
    have hch := (scan_chk (l := q.1) (q := q.2) (Nat.zero_le _) hs).1
    have hlen := scan_len (l := q.1) (q := q.2) hs
    have hby := scan_bytes (l := q.1) (q := q.2) (Nat.zero_le _) hs
    have hX1 := hX3.fr x2 (by simp [SRB, SRF, SF]) (by simp [SRB, SRF, SF]) (by simp [SRB, SRF, SF])
    obtain ⟨eA, eB⟩ := c_readEnd hW1 hX1 (k + 1) hq x5
    have hfm : (nI f = -1) = False := nI_ne_m1 (by have := x11.2.1; omega)
    refine ⟨fun kd pl h => ?_, fun l h => ?_⟩
    · by_cases hend : tq b n q.2 = n
      · have h : (if tq b n q.2 = n then Sum.inr q.1 else Sum.inl (1, tq b n q.2)) = Sum.inl (kd, pl) := h
        rw [if_pos hend] at h
        cases h
      · have h : (if tq b n q.2 = n then Sum.inr q.1 else Sum.inl (1, tq b n q.2)) = Sum.inl (kd, pl) := h
        rw [if_neg hend] at h
        cases h
        obtain ⟨M2, y1, y2, y3, y4⟩ := eB hend
        obtain ⟨t1, t2⟩ := x11.fr y2 (by simp [SE]) (by simp [SE]) (by simp [SE]) (by simp [SE]) (by simp [SE]) (by simp [SE]) (by simp [SE])
        refine ⟨c1, M2, ?_, (F3.trans (x2.mono (fun a k h => Or.inl h))).trans (y2.mono SE_SGr), y3, y4, x9, by omega, t1, fun i hi => (t2 i).trans ((x12 i hi).trans (hT3.2 i))⟩
        unfold f_X6_readGoal b_X6_readGoal
        simp only [T_X6_readGoal_0, W_14 hW, W_14 hW3, W_14 hW1, gd_true, fO, fA, ex_in, bnd_s, bnd2_s, cal_s, Nat.reduceLT, true_and, and_true, and_self, nI_z, vp_iff, up2_if, Nat.reduceEqDiff, false_and, and_false, if_false, if_true, nI_1, nI_le_, nI_lt_, nI_lt0, nI_eq_, nI_add, e0, x1, hfm, y1]
    · have h : (if tq b n q.2 = n then Sum.inr q.1 else Sum.inl (1, tq b n q.2)) = Sum.inr l := h
      by_cases hend : tq b n q.2 = n
      · rw [if_pos hend] at h
        cases h
        obtain ⟨M2, y1, y2⟩ := eA hend
        obtain ⟨t1, t2⟩ := x11.fr y2 (by simp [SA]) (by simp [SA]) (by simp [SA]) (by simp [SA]) (by simp [SA]) (by simp [SA]) (by simp [SA])
        refine ⟨f, c1, M2, ?_, (F3.trans (x2.mono (fun a k h => Or.inl h))).trans (y2.mono (fun a k h => SE_SGr a k (SA_SE a k h))), (y2.int (by simp [SA])).trans (x3.trans h17), (y2.int (by simp [SA])).trans (x4.trans h18), (y2.int (by simp [SA])).trans x6, (y2.int (by simp [SA])).trans x7, x8, x9, by omega, t1, fun i hi => (t2 i).trans ((x12 i hi).trans (hT3.2 i)), by rw [t2]; exact x13, hlen, hch⟩
        unfold f_X6_readGoal b_X6_readGoal
        simp only [T_X6_readGoal_0, W_14 hW, W_14 hW3, W_14 hW1, gd_true, fO, fA, ex_in, bnd_s, bnd2_s, cal_s, Nat.reduceLT, true_and, and_true, and_self, nI_z, vp_iff, up2_if, Nat.reduceEqDiff, false_and, and_false, if_false, if_true, nI_1, nI_le_, nI_lt_, nI_lt0, nI_eq_, nI_add, e0, x1, hfm, y1, show ((1 : Int32) = 0) = False from eq_false (by decide)]
      · rw [if_neg hend] at h
        cases h
end CG
