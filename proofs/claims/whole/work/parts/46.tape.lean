/-! THE TAPE -/
def sb (x : Nat) : Int32 := (Int32.toInt8 (nI x)).toInt32
def byN (v : Int32) (s : Nat) : Nat := (iushr v (nI s) &&& 255).toNatClampNeg
theorem byN_is (v : Int32) (s : Nat) : byN v s < 256 ∧ iushr v (nI s) &&& 255 = nI (byN v s) := by
  obtain ⟨j, h1, h2⟩ := pk_andE (iushr v (nI s)) (m := 255) 8 (by decide)
  have : byN v s = j := by unfold byN; rw [h2, nI_z (by omega)]
  rw [this]
  exact ⟨by omega, h2⟩
theorem by8 (v : Int32) : (Int32.toInt8 (v >>> ((0 : Int32) &&& 31))) = Int32.toInt8 (iushr v 0 &&& 255) ∧ (Int32.toInt8 (v >>> ((8 : Int32) &&& 31))) = Int32.toInt8 (iushr v 8 &&& 255) ∧ (Int32.toInt8 (v >>> ((16 : Int32) &&& 31))) = Int32.toInt8 (iushr v 16 &&& 255) ∧ (Int32.toInt8 (v >>> ((24 : Int32) &&& 31))) = Int32.toInt8 (iushr v 24 &&& 255) := by
  have h255 : ∀ i (hi : i < 8), (255#8)[i] = true := by
    intro i hi
    have h8 : i = 0 ∨ i = 1 ∨ i = 2 ∨ i = 3 ∨ i = 4 ∨ i = 5 ∨ i = 6 ∨ i = 7 := by omega
    rcases h8 with rfl | rfl | rfl | rfl | rfl | rfl | rfl | rfl <;> first | simp | decide
  refine ⟨?_, ?_, ?_, ?_⟩
  all_goals
    apply Int8.toBitVec_inj.mp
    ext i hi
    have e1 := h255 i hi
    have e2 : i < 32 := by omega
    have e3 : 8 + i < 32 := by omega
    have e4 : 16 + i < 32 := by omega
    have e5 : 24 + i < 32 := by omega
    simp [iushr, e1, BitVec.getElem_signExtend, BitVec.getElem_sshiftRight, BitVec.getElem_ushiftRight, BitVec.getLsbD_eq_getElem, e2, e3, e4, e5]
theorem toInt8_idem (x : Int8) : Int32.toInt8 x.toInt32 = x := by simp
/-- the tape's bytes, as class and reference keep them -/
def TpC (M : Mem) (b : Nat → Nat) (L : Nat) : Prop := M.2.2.1 0 1 = nI L ∧ L ≤ 600 ∧ ∀ i, i < L → b i < 256 ∧ M.2.2.1 1 i = nI (b i)
def TpR (M : Mem) (b : Nat → Nat) (L : Nat) : Prop := M.2.2.1 89 27 = nI L ∧ L ≤ 600 ∧ ∀ i, i < L → b i < 256 ∧ M.2.2.1 109 i = sb (b i)
/-- byte k of what five numbers feed -/
def fbN (v : Nat → Int32) (k : Nat) : Nat := byN (v (k / 4)) (24 - 8 * (k % 4))
def fdB (b : Nat → Nat) (L : Nat) (v : Nat → Int32) : Nat → Nat := fun i => if i < L then b i else fbN v (i - L)
section TP
variable {M : Mem}
/-- one byte more -/
abbrev pbM (M : Mem) (L : Nat) (x : Nat) : Mem := wI (wI M 1 L (nI x)) 0 1 (nI (L + 1))
set_option maxHeartbeats 4000000 in
theorem pb_step (hW : Wd M) {L : Nat} (hL : M.2.2.1 0 1 = nI L) (h6 : L < 600) (n : Nat) (v : Int32) {s : Nat} (hs : s < 100) : lp (st_X10_putBytes n) (3, [.ref 0, .int v, .int (nI s)], M) = lp (st_X10_putBytes n) (3, [.ref 0, .int v, .int (nI s + (-8))], pbM M L (byN v s)) := by
  refine (ge_X10_putBytes_3 n 0 v (nI s) M).trans ?_
  simp (disch := omega) only [T_X10_putBytes_3, nI_lt0, if_false, W_0 hW, gd_true, fO, fA, ex_in, bnd_s, Nat.reduceLT, true_and, and_true, and_self, hL, show (600 : Int32) = nI 600 from rfl, nI_le_, nI_z, vp_iff, up2_if, Nat.reduceEqDiff, false_and, nI_1, (byN_is v s).2]
  rw [if_neg (by omega), gd_pos h6]
theorem pb_end (n : Nat) (v : Int32) {M : Mem} : lp (st_X10_putBytes n) (3, [.ref 0, .int v, .int (-8)], M) = some ((), M) := by
  refine (ge_X10_putBytes_3 n 0 v (-8) M).trans ?_
  simp only [T_X10_putBytes_3, show ((-8 : Int32) < 0) = True from eq_true (by decide), if_true]
theorem c_putBytes (hW : Wd M) {L : Nat} (hL : M.2.2.1 0 1 = nI L) (h6 : L + 4 ≤ 600) (n : Nat) (v : Int32) : f_X10_putBytes n 0 v M = some ((), pbM (pbM (pbM (pbM M L (byN v 24)) (L + 1) (byN v 16)) (L + 2) (byN v 8)) (L + 3) (byN v 0)) := by
  refine (ge_X10_putBytes_0 n 0 v M).trans ?_
  show lp (st_X10_putBytes n) (3, [.ref 0, .int v, .int (nI 24)], M) = _
  rw [pb_step hW hL (by omega) n v (by omega), show nI 24 + (-8) = nI 16 by decide, pb_step (M := pbM M L (byN v 24)) ((hW.wI _ _ _).wI _ _ _) (L := L + 1) rfl (by omega) n v (by omega), show nI 16 + (-8) = nI 8 by decide, pb_step (M := pbM (pbM M L (byN v 24)) (L + 1) (byN v 16)) ((((hW.wI _ _ _).wI _ _ _).wI _ _ _).wI _ _ _) (L := L + 2) rfl (by omega) n v (by omega), show nI 8 + (-8) = nI 0 by decide, pb_step (M := pbM (pbM (pbM M L (byN v 24)) (L + 1) (byN v 16)) (L + 2) (byN v 8)) ((((((hW.wI _ _ _).wI _ _ _).wI _ _ _).wI _ _ _).wI _ _ _).wI _ _ _) (L := L + 3) rfl (by omega) n v (by omega), show nI 0 + (-8) = -8 by decide, pb_end]
/-- the first k of twenty bytes are on the tape -/
def FdQ (M : Mem) (v : Nat → Int32) (L k : Nat) (M1 : Mem) : Prop := Fr (fun a j => (a = 0 ∧ j = 1) ∨ (a = 1 ∧ L ≤ j)) M M1 ∧ M1.2.2.1 0 1 = nI (L + k) ∧ ∀ i, i < k → M1.2.2.1 1 (L + i) = nI (fbN v i)
theorem FdQ.step {v : Nat → Int32} {L k : Nat} {M1 : Mem} (h : FdQ M v L k M1) : FdQ M v L (k + 1) (pbM M1 (L + k) (fbN v k)) := by
  refine ⟨(h.1.wI (by right; exact ⟨rfl, by omega⟩) _).wI (by left; exact ⟨rfl, rfl⟩) _, rfl, fun i hi => ?_⟩
  by_cases e : i = k
  · subst e
    simp [up2_if]
  · have : L + i ≠ L + k := by omega
    simp only [up2_if, Nat.reduceEqDiff, false_and, if_false, true_and, this]
    exact h.2.2 i (by omega)
theorem FdQ.word {v : Nat → Int32} {L w : Nat} {M1 : Mem} (h : FdQ M v L (4 * w) M1) : FdQ M v L (4 * (w + 1)) (pbM (pbM (pbM (pbM M1 (L + 4 * w) (byN (v w) 24)) (L + 4 * w + 1) (byN (v w) 16)) (L + 4 * w + 2) (byN (v w) 8)) (L + 4 * w + 3) (byN (v w) 0)) := by
  have e0 : fbN v (4 * w) = byN (v w) 24 := by unfold fbN; rw [show 4 * w / 4 = w by omega, show 4 * w % 4 = 0 by omega]
  have e1 : fbN v (4 * w + 1) = byN (v w) 16 := by unfold fbN; rw [show (4 * w + 1) / 4 = w by omega, show (4 * w + 1) % 4 = 1 by omega]
  have e2 : fbN v (4 * w + 1 + 1) = byN (v w) 8 := by unfold fbN; rw [show (4 * w + 1 + 1) / 4 = w by omega, show (4 * w + 1 + 1) % 4 = 2 by omega]
  have e3 : fbN v (4 * w + 1 + 1 + 1) = byN (v w) 0 := by unfold fbN; rw [show (4 * w + 1 + 1 + 1) / 4 = w by omega, show (4 * w + 1 + 1 + 1) % 4 = 3 by omega]
  have := h.step.step.step.step
  rw [e0, e1, e2, e3] at this
  exact this
theorem FdQ.put {v : Nat → Int32} {L w : Nat} {M1 : Mem} (h : FdQ M v L (4 * w) M1) (hW : Wd M) (n : Nat) (h6 : L + 4 * w + 4 ≤ 600) : ∃ M2, f_X10_putBytes n 0 (v w) M1 = some ((), M2) ∧ FdQ M v L (4 * (w + 1)) M2 := ⟨_, c_putBytes (h.1.Wd hW) h.2.1 h6 n (v w), h.word⟩
def v5 (a b c d e : Int32) (k : Nat) : Int32 := if k = 0 then a else if k = 1 then b else if k = 2 then c else if k = 3 then d else e
set_option maxHeartbeats 4000000 in
/-- FEED, in the class -/
theorem c_feed (hW : Wd M) {b : Nat → Nat} {L : Nat} (hT : TpC M b L) (n : Nat) (v1 v2 v3 v4 v5_ : Int32) : (600 < L + 20 → f_X10_feed (n + 1) 0 v1 v2 v3 v4 v5_ M = some (-4, M)) ∧
    (L + 20 ≤ 600 → ∃ M1, f_X10_feed (n + 1) 0 v1 v2 v3 v4 v5_ M = some (nI (L + 20), M1) ∧ Fr (fun a j => (a = 0 ∧ j = 1) ∨ (a = 1 ∧ L ≤ j)) M M1 ∧ TpC M1 (fdB b L (v5 v1 v2 v3 v4 v5_)) (L + 20)) := by
  have h6 := hT.2.1
  constructor
  · intro h
    unfold f_X10_feed b_X10_feed
    simp (disch := omega) only [T_X10_feed_0, W_0 hW, gd_true, fO, Nat.reduceLT, and_self, hT.1, show (600 : Int32) = nI 600 from rfl, show (20 : Int32) = nI 20 from rfl, nI_add, nI_le_]
    rw [if_neg (by omega)]
  · intro h
    unfold f_X10_feed b_X10_feed
    have F0 : FdQ M (v5 v1 v2 v3 v4 v5_) L (4 * 0) M := ⟨Fr.refl, hT.1, fun i hi => by omega⟩
    obtain ⟨M1, p1, F1⟩ := F0.put hW n (by omega)
    obtain ⟨M2, p2, F2⟩ := F1.put hW n (by omega)
    obtain ⟨M3, p3, F3⟩ := F2.put hW n (by omega)
    obtain ⟨M4, p4, F4⟩ := F3.put hW n (by omega)
    obtain ⟨M5, p5, F5⟩ := F4.put hW n (by omega)
    have w1 := F1.1.Wd hW
    have w2 := F2.1.Wd hW
    have w3 := F3.1.Wd hW
    have w4 := F4.1.Wd hW
    have w5 := F5.1.Wd hW
    replace p1 : f_X10_putBytes n 0 v1 M = some ((), M1) := p1
    replace p2 : f_X10_putBytes n 0 v2 M1 = some ((), M2) := p2
    replace p3 : f_X10_putBytes n 0 v3 M2 = some ((), M3) := p3
    replace p4 : f_X10_putBytes n 0 v4 M3 = some ((), M4) := p4
    replace p5 : f_X10_putBytes n 0 v5_ M4 = some ((), M5) := p5
    have e5 : M5.2.2.1 0 1 = nI (L + 20) := F5.2.1
    refine ⟨M5, ?_, F5.1, e5, by omega, fun i hi => ?_⟩
    · simp (disch := omega) only [T_X10_feed_0, W_0 hW, W_0 w1, W_0 w2, W_0 w3, W_0 w4, W_0 w5, gd_true, fO, Nat.reduceLT, and_self, hT.1, show (600 : Int32) = nI 600 from rfl, show (20 : Int32) = nI 20 from rfl, nI_add, nI_le_, cal_s, p1, p2, p3, p4, p5, bnd2_s, e5]
      rw [if_pos (by omega)]
    · unfold fdB
      by_cases hiL : i < L
      · rw [if_pos hiL, F5.1.int (by omega)]
        exact hT.2.2 i hiL
      · rw [if_neg hiL]
        refine ⟨(byN_is _ _).1, ?_⟩
        have := F5.2.2 (i - L) (by omega)
        rwa [show L + (i - L) = i by omega] at this
theorem sb_by (v : Int32) : ∀ {k : Nat}, k < 4 → (Int32.toInt8 ((Int32.toInt8 (v >>> ((24 - (8 * nI k)) &&& 31))).toInt32)).toInt32 = sb (byN v (24 - 8 * k)) := by
  intro k hk
  rw [toInt8_idem]
  unfold sb
  rw [← (byN_is v (24 - 8 * k)).2]
  have h := by8 v
  match k, hk with
  | 0, _ => exact congrArg Int8.toInt32 h.2.2.2
  | 1, _ => exact congrArg Int8.toInt32 h.2.2.1
  | 2, _ => exact congrArg Int8.toInt32 h.2.1
  | 3, _ => exact congrArg Int8.toInt32 h.1
/-- the first k bytes, in the reference -/
def FdR (M : Mem) (v : Nat → Int32) (L k : Nat) (M1 : Mem) : Prop := Fr (fun a j => (a = 89 ∧ (j = 0 ∨ j = 27)) ∨ (a = 109 ∧ L ≤ j)) M M1 ∧ M1.2.2.1 89 27 = nI (L + k) ∧ ∀ i, i < k → M1.2.2.1 109 (L + i) = sb (fbN v i)
theorem nI_div4 {k : Nat} (hk : k < 20) : nI k - nI k / 4 * 4 = nI (k % 4) := by
  have := (show ∀ k, k < 20 → nI k - nI k / 4 * 4 = nI (k % 4) by decide +kernel) k hk
  exact this
set_option maxHeartbeats 4000000 in
theorem rfeed_loop (hW : Wd M) {L : Nat} (h6 : L + 20 ≤ 600) (n : Nat) (v1 v2 v3 v4 v5_ : Int32) : ∀ (z k : Nat), k + z = 20 → ∀ M1, FdR M (v5 v1 v2 v3 v4 v5_) L k M1 → ∃ M2, lp (st_X11_feed n) (24, [.ref 89, .int v1, .int v2, .int v3, .int v4, .int v5_, .int (nI k)], M1) = some (nI (L + 20), M2) ∧ FdR M (v5 v1 v2 v3 v4 v5_) L 20 M2 := by
  intro z
  induction z with
  | zero =>
    intro k hk M1 h
    have hk20 : k = 20 := by omega
    subst hk20
    have hW1 := h.1.Wd hW
    refine ⟨M1, ?_, h⟩
    refine (ge_X11_feed_24 n 89 v1 v2 v3 v4 v5_ (nI 20) M1).trans ?_
    simp (disch := omega) only [T_X11_feed_24, show ((20 : Int32) ≤ nI 20) = True from eq_true (by decide), if_true, W_89 hW1, gd_true, fO, Nat.reduceLT, and_self, h.2.1]
  | succ z ih =>
    intro k hk M1 h
    have hW1 := h.1.Wd hW
    have s1 : lp (st_X11_feed n) (24, [.ref 89, .int v1, .int v2, .int v3, .int v4, .int v5_, .int (nI k)], M1) = lp (st_X11_feed n) (77, [.ref 89, .int v1, .int v2, .int v3, .int v4, .int v5_, .int (nI k), .int (v5 v1 v2 v3 v4 v5_ (k / 4))], M1) := by
      refine (ge_X11_feed_24 n 89 v1 v2 v3 v4 v5_ (nI k) M1).trans ?_
      simp (disch := omega) only [T_X11_feed_24, show (20 : Int32) = nI 20 from rfl, show (4 : Int32) = nI 4 from rfl, show (8 : Int32) = nI 8 from rfl, show (12 : Int32) = nI 12 from rfl, show (16 : Int32) = nI 16 from rfl, nI_le_]
      rw [if_neg (by omega)]
      unfold v5
      by_cases c1 : k < 4
      · rw [if_neg (by omega), if_pos (by omega)]
      · by_cases c2 : k < 8
        · rw [if_pos (by omega), if_neg (by omega), if_neg (by omega), if_pos (by omega)]
        · by_cases c3 : k < 12
          · rw [if_pos (by omega), if_pos (by omega), if_neg (by omega), if_neg (by omega), if_neg (by omega), if_pos (by omega)]
          · by_cases c4 : k < 16
            · rw [if_pos (by omega), if_pos (by omega), if_pos (by omega), if_neg (by omega), if_neg (by omega), if_neg (by omega), if_neg (by omega), if_pos (by omega)]
            · rw [if_pos (by omega), if_pos (by omega), if_pos (by omega), if_pos (by omega), if_neg (by omega), if_neg (by omega), if_neg (by omega), if_neg (by omega)]
    have s2 : lp (st_X11_feed n) (77, [.ref 89, .int v1, .int v2, .int v3, .int v4, .int v5_, .int (nI k), .int (v5 v1 v2 v3 v4 v5_ (k / 4))], M1) = lp (st_X11_feed n) (24, [.ref 89, .int v1, .int v2, .int v3, .int v4, .int v5_, .int (nI (k + 1))], wI (wI M1 109 (L + k) (sb (fbN (v5 v1 v2 v3 v4 v5_) k))) 89 27 (nI (L + k + 1))) := by
      refine (ge_X11_feed_77 n 89 v1 v2 v3 v4 v5_ (nI k) (v5 v1 v2 v3 v4 v5_ (k / 4)) M1).trans ?_
      simp (disch := omega) only [T_X11_feed_77, W_89 hW1, gd_true, fO, fA, ex_in, bnd_s, Nat.reduceLT, true_and, and_true, and_self, h.2.1, nI_z, vp_iff, up2_if, Nat.reduceEqDiff, false_and, if_false, nI_1, nI_div4]
      rw [sb_by _ (by omega)]
      rw [gd_pos (by omega)]
      rfl
    rw [s1, s2]
    refine ih (k + 1) (by omega) _ ⟨(h.1.wI (by right; exact ⟨rfl, by omega⟩) _).wI (by left; exact ⟨rfl, Or.inr rfl⟩) _, rfl, fun i hi => ?_⟩
    by_cases e : i = k
    · subst e
      simp [up2_if]
    · have : L + i ≠ L + k := by omega
      simp only [up2_if, Nat.reduceEqDiff, false_and, if_false, true_and, this]
      exact h.2.2 i (by omega)
set_option maxHeartbeats 4000000 in
/-- FEED, in the reference -/
theorem r_feed (hW : Wd M) {b : Nat → Nat} {L : Nat} (hT : TpR M b L) (n : Nat) (v1 v2 v3 v4 v5_ : Int32) : (600 < L + 20 → f_X11_feed n 89 v1 v2 v3 v4 v5_ M = some (-4, wI M 89 0 0)) ∧
    (L + 20 ≤ 600 → ∃ M1, f_X11_feed n 89 v1 v2 v3 v4 v5_ M = some (nI (L + 20), M1) ∧ Fr (fun a j => (a = 89 ∧ (j = 0 ∨ j = 27)) ∨ (a = 109 ∧ L ≤ j)) M M1 ∧ TpR M1 (fdB b L (v5 v1 v2 v3 v4 v5_)) (L + 20)) := by
  have h6 := hT.2.1
  have e0 : f_X11_feed n 89 v1 v2 v3 v4 v5_ M = if L + 20 ≤ 600 then lp (st_X11_feed n) (24, [.ref 89, .int v1, .int v2, .int v3, .int v4, .int v5_, .int 0], wI M 89 0 0) else some (-4, wI M 89 0 0) := by
    refine (ge_X11_feed_0 n 89 v1 v2 v3 v4 v5_ M).trans ?_
    simp (disch := omega) only [T_X11_feed_0, W_89 hW, gd_true, fO, Nat.reduceLT, and_self, up2_if, Nat.reduceEqDiff, and_false, if_false, hT.1, show (600 : Int32) = nI 600 from rfl, show (20 : Int32) = nI 20 from rfl, nI_add, nI_le_]
  constructor
  · intro h
    rw [e0, if_neg (by omega)]
  · intro h
    rw [e0, if_pos h]
    obtain ⟨M2, h1, h2⟩ := rfeed_loop hW h n v1 v2 v3 v4 v5_ 20 0 (by omega) (wI M 89 0 0) ⟨Fr.refl.wI (by left; exact ⟨rfl, Or.inl rfl⟩) _, hT.1, fun i hi => by omega⟩
    refine ⟨M2, h1, h2.1, h2.2.1, by omega, fun i hi => ?_⟩
    unfold fdB
    by_cases hiL : i < L
    · rw [if_pos hiL, h2.1.int (by omega)]
      exact hT.2.2 i hiL
    · rw [if_neg hiL]
      refine ⟨(byN_is _ _).1, ?_⟩
      have := h2.2.2 (i - L) (by omega)
      rwa [show L + (i - L) = i by omega] at this
end TP
