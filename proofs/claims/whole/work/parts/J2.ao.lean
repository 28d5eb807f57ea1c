/-! THE DECIDER in the class: sets as bits; what follows at once -/
def bt (i : Nat) : Int64 := 1 <<< ((nI i).toInt64 &&& 63)
theorem bt_tp : ∀ i, i < 40 → (bt i).toBitVec = BitVec.twoPow 64 i := by decide +kernel
theorem b64_bt {i : Nat} (hi : i < 40) (j : Nat) : b64 (bt i) j = decide (i = j) := by
  unfold b64
  rw [bt_tp i hi, BitVec.getLsbD_twoPow, decide_eq_true (show i < 64 by omega), Bool.true_and]
theorem b64_ext {a b : Int64} (h : ∀ j, j < 64 → b64 a j = b64 b j) : a = b := Int64.toBitVec_inj.mp (BitVec.eq_of_getLsbD_eq (fun j hj => h j hj))
theorem b64_lt {a : Int64} {j : Nat} (h : b64 a j = true) : j < 64 := by
  apply Nat.lt_of_not_le
  intro q
  unfold b64 at h
  rw [BitVec.getLsbD_of_ge _ _ q] at h
  cases h
theorem and_bt {w : Int64} {i : Nat} (hi : i < 40) : w &&& bt i = 0 ↔ b64 w i = false := by
  constructor
  · intro h
    have := congrArg (fun z => b64 z i) h
    simp only [b64_and, b64_bt hi, b64_0, decide_true, Bool.and_true] at this
    exact this
  · intro h
    apply b64_ext
    intro j hj
    rw [b64_and, b64_bt hi, b64_0]
    by_cases e : i = j
    · rw [← e, h, Bool.false_and]
    · rw [decide_eq_false e, Bool.and_false]
theorem and_bt2 {w : Int64} {a b : Nat} (ha : a < 40) (hb : b < 40) : w &&& (bt a ||| bt b) = 0 ↔ b64 w a = false ∧ b64 w b = false := by
  rw [← and_bt ha, ← and_bt hb]
  constructor
  · intro h
    refine ⟨?_, ?_⟩
    · apply b64_ext
      intro j hj
      have := congrArg (fun z => b64 z j) h
      simp only [b64_and, b64_or, b64_0, Bool.and_or_distrib_left, Bool.or_eq_false_iff] at this
      rw [b64_and, b64_0]
      exact this.1
    · apply b64_ext
      intro j hj
      have := congrArg (fun z => b64 z j) h
      simp only [b64_and, b64_or, b64_0, Bool.and_or_distrib_left, Bool.or_eq_false_iff] at this
      rw [b64_and, b64_0]
      exact this.2
  · intro h
    apply b64_ext
    intro j hj
    have h1 := congrArg (fun z => b64 z j) h.1
    have h2 := congrArg (fun z => b64 z j) h.2
    simp only [b64_and, b64_0] at h1 h2
    rw [b64_and, b64_or, b64_0, Bool.and_or_distrib_left, h1, h2]
    rfl
theorem cm_bt {w : Int64} {i : Nat} (hi : i < 40) : (lg_cmp (w &&& bt i) 0 = 0) = (b64 w i = false) := propext ((lg_cmp0 _ _).trans (and_bt hi))
theorem cm_bt2 {w : Int64} {a b : Nat} (ha : a < 40) (hb : b < 40) : (lg_cmp (w &&& (bt a ||| bt b)) 0 = 0) = (b64 w a = false ∧ b64 w b = false) := propext ((lg_cmp0 _ _).trans (and_bt2 ha hb))
theorem cm_sh {w : Int64} {i : Nat} (hi : i < 64) : (lg_cmp ((lushr w (nI i)) &&& 1) 0 = 0) = (b64 w i = false) := propext ((lg_cmp0 _ _).trans (ts_bit hi (sh_j i hi)))
/-- the decider's parts -/
def DcP (M : Mem) (m : Nat) (kd lf rt : Nat → Nat) : Prop := M.2.2.1 80 7 = nI m ∧ m ≤ 40 ∧ (∀ i, i < m → M.2.2.1 81 i = nI (kd i) ∧ (9 ≤ kd i → M.2.2.2.1 82 i = bt (lf i) ∧ M.2.2.2.1 83 i = bt (rt i)) ∧ (kd i < 9 → M.2.2.2.1 82 i = 0 ∧ M.2.2.2.1 83 i = 0)) ∧ ∀ j, b64 (M.2.2.2.1 80 9) j = true ↔ j < m ∧ kd j = 8
def aoV (o i l r : Nat) (A B C : Bool) : Int64 := if o = 9 then (if C then bt i else if A && B then bt r else 0) else if o = 10 then (if A then bt l ||| bt r else if B && C then bt i else 0) else if B || C then bt i else 0
section AO2
variable {M M1 : Mem} {m n : Nat} {kd lf rt : Nat → Nat}
theorem fO80 (hW : Wd M) : fO M 80 0 := ⟨by rw [hW.1]; omega, s_80 hW⟩
theorem fA81 (hW : Wd M) {i : Nat} (hi : i < 40) : fA M 81 1 (nI i) := ⟨by rw [hW.1]; omega, 40, s_81 hW, vp_nI hi (by omega)⟩
theorem fA82 (hW : Wd M) {i : Nat} (hi : i < 40) : fA M 82 2 (nI i) := ⟨by rw [hW.1]; omega, 40, s_82 hW, vp_nI hi (by omega)⟩
theorem fA83 (hW : Wd M) {i : Nat} (hi : i < 40) : fA M 83 2 (nI i) := ⟨by rw [hW.1]; omega, 40, s_83 hW, vp_nI hi (by omega)⟩
set_option maxHeartbeats 2000000 in
theorem ao_67 (hW : Wd M) (hD : DcP M m kd lf rt) {i : Nat} (hi : i < m) (h9 : 9 ≤ kd i) (h11 : kd i ≤ 11) (A B C : Bool) : lp (st_X0_atOnce n) (67, [.ref 80, .int (nI i), .int (bI A), .int (bI B), .int (bI C)], M) = some (aoV (kd i) i (lf i) (rt i) A B C, M) := by
  obtain ⟨-, h40, hk, -⟩ := hD
  obtain ⟨k1, k2, -⟩ := hk i hi
  obtain ⟨k3, k4⟩ := k2 h9
  have one : ((1 : Int32) = 0) = False := eq_false (by decide)
  have zer : ((0 : Int32) = 0) = True := eq_true rfl
  have fb : (1 : Int64) <<< (Int32.toInt64 (nI i) &&& 63) = bt i := rfl
  refine (ge_X0_atOnce_67 n 80 (nI i) (bI A) (bI B) (bI C) M).trans ?_
  unfold T_X0_atOnce_67
  have hj : kd i = 9 ∨ kd i = 10 ∨ kd i = 11 := by omega
  rcases hj with e | e | e
  · rw [e] at k1 ⊢
    have q9 : (nI 9 = (9 : Int32)) = True := eq_true rfl
    cases A <;> cases B <;> cases C <;> (simp (disch := omega) only [↓gd_pos (fO80 hW), ↓bnd_of (r_80_1 hW), ↓gd_pos (fA81 hW (show i < 40 by omega)), nI_z, k1, q9, ↓reduceIte, bI_t, bI_f, one, zer, ↓bnd_of (r_80_3 hW), ↓gd_pos (fA83 hW (show i < 40 by omega)), k4, fb]; rfl)
  · rw [e] at k1 ⊢
    have q9 : (nI 10 = (9 : Int32)) = False := eq_false (by decide)
    have q10 : (nI 10 = (10 : Int32)) = True := eq_true rfl
    cases A <;> cases B <;> cases C <;> (simp (disch := omega) only [↓gd_pos (fO80 hW), ↓bnd_of (r_80_1 hW), ↓gd_pos (fA81 hW (show i < 40 by omega)), nI_z, k1, q9, q10, ↓reduceIte, bI_t, bI_f, one, zer, ↓bnd_of (r_80_2 hW), ↓gd_pos (fA82 hW (show i < 40 by omega)), ↓bnd_of (r_80_3 hW), ↓gd_pos (fA83 hW (show i < 40 by omega)), k3, k4, fb]; rfl)
  · rw [e] at k1 ⊢
    have q9 : (nI 11 = (9 : Int32)) = False := eq_false (by decide)
    have q10 : (nI 11 = (10 : Int32)) = False := eq_false (by decide)
    cases A <;> cases B <;> cases C <;> (simp (disch := omega) only [↓gd_pos (fO80 hW), ↓bnd_of (r_80_1 hW), ↓gd_pos (fA81 hW (show i < 40 by omega)), nI_z, k1, q9, q10, ↓reduceIte, bI_t, bI_f, one, zer, fb]; rfl)
set_option maxHeartbeats 1000000 in
theorem c_atOnce (hW : Wd M) (hD : DcP M m kd lf rt) {i : Nat} (hi : i < m) (h9 : 9 ≤ kd i) (h11 : kd i ≤ 11) (hl : lf i < i) (hr : rt i < i) (w : Int64) : f_X0_atOnce n 80 w (nI i) M = some (aoV (kd i) i (lf i) (rt i) (b64 w i) (b64 w (lf i)) (b64 w (rt i)), M) := by
  have h40 := hD.2.1
  obtain ⟨k1, k2, -⟩ := hD.2.2.1 i hi
  obtain ⟨k3, k4⟩ := k2 h9
  have y3 : lp (st_X0_atOnce n) (47, [.ref 80, .long w, .int (nI i), .int (bI (b64 w i)), .int (bI (b64 w (lf i)))], M) = some (aoV (kd i) i (lf i) (rt i) (b64 w i) (b64 w (lf i)) (b64 w (rt i)), M) := by
    rw [← ao_67 (n := n) hW hD hi h9 h11]
    refine (ge_X0_atOnce_47 n 80 w (nI i) (bI (b64 w i)) (bI (b64 w (lf i))) M).trans ?_
    unfold T_X0_atOnce_47
    cases hb : b64 w (rt i) <;> simp (disch := omega) only [↓gd_pos (fO80 hW), ↓bnd_of (r_80_3 hW), ↓gd_pos (fA83 hW (show i < 40 by omega)), nI_z, k4, cm_bt (show rt i < 40 by omega), hb, reduceCtorEq, ↓reduceIte, bI_t, bI_f]
  have y2 : lp (st_X0_atOnce n) (27, [.ref 80, .long w, .int (nI i), .int (bI (b64 w i))], M) = some (aoV (kd i) i (lf i) (rt i) (b64 w i) (b64 w (lf i)) (b64 w (rt i)), M) := by
    rw [← y3]
    refine (ge_X0_atOnce_27 n 80 w (nI i) (bI (b64 w i)) M).trans ?_
    unfold T_X0_atOnce_27
    cases hb : b64 w (lf i) <;> simp (disch := omega) only [↓gd_pos (fO80 hW), ↓bnd_of (r_80_2 hW), ↓gd_pos (fA82 hW (show i < 40 by omega)), nI_z, k3, cm_bt (show lf i < 40 by omega), hb, reduceCtorEq, ↓reduceIte, bI_t, bI_f]
  rw [← y2]
  refine (ge_X0_atOnce_0 n 80 w (nI i) M).trans ?_
  unfold T_X0_atOnce_0
  have h0 : (nI i < (0 : Int32)) = False := nI_lt0 (by omega)
  have h4 : (nI i < (40 : Int32)) = True := eq_true (by rw [show (40 : Int32) = nI 40 from rfl, nI_lt_ (by omega) (by omega)]; omega)
  cases hb : b64 w i <;> simp (disch := omega) only [h0, h4, cm_sh (show i < 64 by omega), hb, reduceCtorEq, ↓reduceIte, bI_t, bI_f]
end AO2
