/-! SPELLING: names and levels -/
def lvl (k : Nat) : List Nat := if k < 26 then [120, 97 + k] else [120, 97 + k / 26, 97 + k % 26]
theorem shl8 {x : Nat} (h : x < 4294967296) : nI x <<< ((8 : Int32) &&& 31) = nI (x * 256 % 4294967296) := by
  apply Int32.toBitVec_inj.mp
  apply BitVec.eq_of_toNat_eq
  rw [pk_shl (nI x) ((8 : Int32) &&& 31) 8 (by decide), pk_tn h]
  exact (pk_tn (by omega)).symm
section LV8
variable {M : Mem} {q : Nat} {l : List Nat} {f : Nat → Nat} {c : Nat}
theorem nl_go (k : Nat) {v j : Nat} (hv : 0 < v) (hv2 : v < 4294967296) (hj : j < 4) : lp (st_X10_nameLength k) (4, [.int (nI j), .int (nI v)], M) = lp (st_X10_nameLength k) (4, [.int (nI (j + 1)), .int (nI (v * 256 % 4294967296))], M) := by
  refine (ge_X10_nameLength_4 k _ _ M).trans ?_
  have hz : ¬ nI v = 0 := fun w => by have := nI_inj32 (b := 0) hv2 (by omega) w; omega
  simp (disch := omega) only [T_X10_nameLength_4, if_neg hz, show (4 : Int32) = nI 4 from rfl, nI_le_, shl8 hv2, nI_1]
  rw [if_neg (by omega)]
theorem nl_end (k j : Nat) : lp (st_X10_nameLength k) (4, [.int (nI j), .int (nI 0)], M) = some (nI j, M) := by
  refine (ge_X10_nameLength_4 k _ _ M).trans ?_
  simp only [T_X10_nameLength_4, show (nI 0 = 0) = True from eq_true rfl, if_true]
theorem nl_end4 (k v : Nat) : lp (st_X10_nameLength k) (4, [.int (nI 4), .int (nI v)], M) = some (nI 4, M) := by
  refine (ge_X10_nameLength_4 k _ _ M).trans ?_
  simp only [T_X10_nameLength_4, show (4 : Int32) ≤ nI 4 from by decide, if_true, ite_self]
theorem c_nameLength (k : Nat) (h : ltsOk f c) : f_X10_nameLength k (nI (nmc f c)) M = some (nI c, M) := by
  refine (ge_X10_nameLength_0 k _ M).trans ?_
  show lp (st_X10_nameLength k) (4, [.int (nI 0), .int (nI (nmc f c))], M) = _
  have hp : ∀ i, pad f c i < 256 ∧ (i < c → 0 < pad f c i) ∧ (c ≤ i → pad f c i = 0) := fun i => by
    unfold pad
    by_cases q : i < c
    · rw [if_pos q]
      have := h.2.2 i q
      unfold isLt at this
      omega
    · rw [if_neg q]
      omega
  rw [nmc_pad h.2.1, pkb4]
  have h0 := hp 0
  have h1 := hp 1
  have h2 := hp 2
  have h3 := hp 3
  generalize pad f c 0 = g0 at *
  generalize pad f c 1 = g1 at *
  generalize pad f c 2 = g2 at *
  generalize pad f c 3 = g3 at *
  have hc : c = 1 ∨ c = 2 ∨ c = 3 ∨ c = 4 := by have := h.1; have := h.2.1; omega
  rcases hc with rfl | rfl | rfl | rfl
  · rw [nl_go k (by omega) (by omega) (by omega), show (((g0 * 256 + g1) * 256 + g2) * 256 + g3) * 256 % 4294967296 = 0 by omega]
    exact nl_end k 1
  · rw [nl_go k (by omega) (by omega) (by omega), show (((g0 * 256 + g1) * 256 + g2) * 256 + g3) * 256 % 4294967296 = g1 * 16777216 by omega, nl_go k (by omega) (by omega) (by omega), show g1 * 16777216 * 256 % 4294967296 = 0 by omega]
    exact nl_end k 2
  · rw [nl_go k (by omega) (by omega) (by omega), show (((g0 * 256 + g1) * 256 + g2) * 256 + g3) * 256 % 4294967296 = g1 * 16777216 + g2 * 65536 by omega, nl_go k (by omega) (by omega) (by omega), show (g1 * 16777216 + g2 * 65536) * 256 % 4294967296 = g2 * 16777216 by omega, nl_go k (by omega) (by omega) (by omega), show g2 * 16777216 * 256 % 4294967296 = 0 by omega]
    exact nl_end k 3
  · rw [nl_go k (by omega) (by omega) (by omega), show (((g0 * 256 + g1) * 256 + g2) * 256 + g3) * 256 % 4294967296 = g1 * 16777216 + g2 * 65536 + g3 * 256 by omega, nl_go k (by omega) (by omega) (by omega), show (g1 * 16777216 + g2 * 65536 + g3 * 256) * 256 % 4294967296 = g2 * 16777216 + g3 * 65536 by omega, nl_go k (by omega) (by omega) (by omega), show (g2 * 16777216 + g3 * 65536) * 256 % 4294967296 = g3 * 16777216 by omega, nl_go k (by omega) (by omega) (by omega)]
    exact nl_end4 k _
theorem nsl_len : (nsl f c).length = c := by simp [nsl]
theorem c_putName (hW : Wd M) (k : Nat) (h : SpS M q l) (hf : ltsOk f c) (hl : l.length + 10 < 1152921504606846976) : ∃ M1, f_X8_putName (k + 1) 66 (nI (nmc f c)) M = some ((), M1) ∧ Fr S66 M M1 ∧ SpS M1 q (spB l ++ nsl f c) := by
  have hsl := spB_len l
  have hc4 := hf.2.1
  obtain ⟨M1, e1, F1, S1⟩ := c_putBlank hW k h (by omega)
  have hW1 := F1.Wd hW
  have e2 := c_nameLength (M := M1) k hf
  obtain ⟨w1, w2⟩ := c_wantsWithin hW1 k S1 (n := c) (by omega)
  obtain ⟨p1, p2⟩ := S1.put (nsl f c) (by rw [nsl_len]; omega)
  rw [nsl_len] at p1 p2
  unfold f_X8_putName b_X8_putName
  by_cases cc : q < 2147483648 ∧ (spB l).length ≤ q ∧ q < (spB l).length + c
  · have e4 := c_nameLetter (M := M1) k hf (i := q - (spB l).length) (by omega)
    have hwq : M1.2.2.2.1 66 2 - lN (spB l).length = lN (q - (spB l).length) := by rw [S1.1, wq, if_pos cc.1, lQ_sub cc.2.1]
    refine ⟨wJ (wI M1 66 4 (gtN (nsl f c) (q - (spB l).length))) 66 3 (lN (spB l).length + lN c), ?_, F1.trans ((Fr.refl.wI ⟨rfl, by omega⟩ _).wJ ⟨rfl, by omega⟩ _), p1 cc _ rfl⟩
    simp (disch := omega) only [T_X8_putName_0, W_66 hW, W_66 hW1, gd_true, fO, Nat.reduceLT, and_self, bnd2_s, cal_s, e1, e2, nI_long, w1 cc, show ((1 : Int32) = 0) = False from eq_false (by decide), if_false, hwq, lN_int, e4, S1.2.1]
  · refine ⟨wJ M1 66 3 (lN (spB l).length + lN c), ?_, F1.trans (Fr.refl.wJ ⟨rfl, by omega⟩ _), p2 cc⟩
    simp (disch := omega) only [T_X8_putName_0, W_66 hW, W_66 hW1, gd_true, fO, Nat.reduceLT, and_self, bnd2_s, cal_s, e1, e2, nI_long, w2 cc, if_true, S1.2.1]
def lvf (k : Nat) (i : Nat) : Nat := if i = 0 then 120 else if k < 26 then 97 + k else if i = 1 then 97 + k / 26 else 97 + k % 26
def lvc (k : Nat) : Nat := if k < 26 then 2 else 3
theorem lv_ok {k : Nat} (hk : k < 676) : ltsOk (lvf k) (lvc k) := by
  refine ⟨by unfold lvc; split <;> omega, by unfold lvc; split <;> omega, fun i hi => ?_⟩
  unfold lvf isLt
  split
  · omega
  · split
    · omega
    · split <;> omega
theorem lv_is (k : Nat) : nsl (lvf k) (lvc k) = lvl k := by
  unfold lvl lvc
  by_cases h : k < 26
  · rw [if_pos h, if_pos h]
    simp [nsl, List.range, List.range.loop, lvf, h]
  · rw [if_neg h, if_neg h]
    simp [nsl, List.range, List.range.loop, lvf, h]
theorem lv_nm : ∀ k, k < 201 → (k < 26 → (2013265920 : Int32) ||| ((97 + (nI k - nI k / 26 * 26)) <<< ((16 : Int32) &&& 31)) = nI (nmc (lvf k) (lvc k))) ∧ (26 ≤ k → ((2013265920 : Int32) ||| ((97 + (nI k / 26)) <<< ((16 : Int32) &&& 31))) ||| ((97 + (nI k - nI k / 26 * 26)) <<< ((8 : Int32) &&& 31)) = nI (nmc (lvf k) (lvc k))) := by decide +kernel
theorem c_putLevel (hW : Wd M) (k : Nat) (h : SpS M q l) {v : Nat} (hv : v < 201) (hl : l.length + 10 < 1152921504606846976) : ∃ M1, f_X8_putLevel (k + 2) 66 (nI v) M = some ((), M1) ∧ Fr S66 M M1 ∧ SpS M1 q (spB l ++ lvl v) := by
  obtain ⟨M1, e1, F1, S1⟩ := c_putName hW k h (lv_ok (k := v) (by omega)) hl
  rw [lv_is] at S1
  refine ⟨M1, ?_, F1, S1⟩
  obtain ⟨n1, n2⟩ := lv_nm v hv
  unfold f_X8_putLevel b_X8_putLevel
  by_cases c : v < 26
  · rw [← n1 c] at e1
    simp (disch := omega) only [T_X8_putLevel_0, show (26 : Int32) ≤ nI v ↔ 26 ≤ v from by rw [show (26 : Int32) = nI 26 from rfl, nI_le_ (by omega) (by omega)], W_66 hW, gd_true, fO, Nat.reduceLT, and_self, bnd2_s, cal_s, e1]
    rw [if_neg (by omega)]
  · rw [← n2 (by omega)] at e1
    simp (disch := omega) only [T_X8_putLevel_0, show (26 : Int32) ≤ nI v ↔ 26 ≤ v from by rw [show (26 : Int32) = nI 26 from rfl, nI_le_ (by omega) (by omega)], W_66 hW, gd_true, fO, Nat.reduceLT, and_self, bnd2_s, cal_s, e1]
    rw [if_pos (by omega)]
end LV8
