/-! THE DECIDER in the class: what is remembered -/
def MmO (M : Mem) (C : Int64 → Int64 → Prop) : Prop := ∀ s, s < 8192 → M.2.2.2.1 84 s = 0 ∨ C (M.2.2.2.1 84 s - 1) (M.2.2.2.1 85 s)
def S84 (a k : Nat) : Prop := a = 84 ∨ a = 85 ∨ (a = 80 ∧ k = 6)
theorem an_nI (a : Nat) : nI a &&& 8191 = nI (a % 8192) := by
  apply Int32.toBitVec_inj.mp
  rw [Int32.toBitVec_and]
  show BitVec.ofNat 32 a &&& BitVec.ofNat 32 8191 = BitVec.ofNat 32 _
  apply BitVec.eq_of_toNat_eq
  rw [BitVec.toNat_and, BitVec.toNat_ofNat, BitVec.toNat_ofNat, BitVec.toNat_ofNat, show 8191 % 2 ^ 32 = 2 ^ 13 - 1 by decide, Nat.and_two_pow_sub_one_eq_mod]
  omega
section MM6
variable {M M1 : Mem} {m n g : Nat} {kd lf rt : Nat → Nat} {aw : Int64} {C : Int64 → Int64 → Prop}
theorem DcP.s84 (h : DcP M m kd lf rt) (F : Fr S84 M M1) : DcP M1 m kd lf rt := by
  obtain ⟨h1, h2, h3, h4⟩ := h
  refine ⟨(F.int (by unfold S84; omega)).trans h1, h2, fun i hi => ?_, ?_⟩
  · rw [F.int (by unfold S84; omega), F.lng (a := 82) (by unfold S84; omega), F.lng (a := 83) (by unfold S84; omega)]
    exact h3 i hi
  · rw [F.lng (by unfold S84; omega)]
    exact h4
theorem DcQ.s84 (h : DcQ M m g aw) (F : Fr S84 M M1) : DcQ M1 m g aw := ⟨h.1, (F.lng (by unfold S84; omega)).trans h.2.1, (F.lng (by unfold S84; omega)).trans h.2.2⟩
theorem fA84 (hW : Wd M) {s : Nat} (hs : s < 8192) : fA M 84 2 (nI s) := ⟨by rw [hW.1]; omega, 8192, s_84 hW, vp_nI hs (by omega)⟩
theorem fA85 (hW : Wd M) {s : Nat} (hs : s < 8192) : fA M 85 2 (nI s) := ⟨by rw [hW.1]; omega, 8192, s_85 hW, vp_nI hs (by omega)⟩
/-- a spot found -/
def SpO (M : Mem) (w : Int64) (r : Int32) : Prop := r = -1 ∨ ∃ s, s < 8192 ∧ r = nI s ∧ (M.2.2.2.1 84 s = 0 ∨ M.2.2.2.1 84 s = w + 1)
theorem ms_20 (hW : Wd M) (w : Int64) : ∀ z x, x + z = 8192 → ∀ s, s < 8192 → ∃ r, lp (st_X0_memoSpot n) (20, [.ref 80, .long w, .int (nI s), .int (nI x)], M) = some (r, M) ∧ SpO M w r := by
  intro z
  induction z with
  | zero =>
    intro x hx s hs
    refine ⟨-1, ?_, Or.inl rfl⟩
    refine (ge_X0_memoSpot_20 n 80 w (nI s) (nI x) M).trans ?_
    unfold T_X0_memoSpot_20
    have hle : ((8192 : Int32) ≤ nI x) = True := eq_true (by rw [show (8192 : Int32) = nI 8192 from rfl, nI_le_ (by omega) (by omega)]; omega)
    simp only [hle, ↓reduceIte]
  | succ z ih =>
    intro x hx s hs
    have hle : ((8192 : Int32) ≤ nI x) = False := eq_false (by rw [show (8192 : Int32) = nI 8192 from rfl, nI_le_ (by omega) (by omega)]; omega)
    have f84 := fA84 hW hs
    by_cases h0 : M.2.2.2.1 84 s = 0
    · have q0 : (lg_cmp (M.2.2.2.1 84 s) 0 = 0) = True := eq_true ((lg_cmp0 _ _).mpr h0)
      refine ⟨nI s, ?_, Or.inr ⟨s, hs, rfl, Or.inl h0⟩⟩
      refine (ge_X0_memoSpot_20 n 80 w (nI s) (nI x) M).trans ?_
      unfold T_X0_memoSpot_20
      simp (disch := omega) only [hle, ↓reduceIte, ↓gd_pos (fO80 hW), ↓bnd_of (r_80_4 hW), ↓gd_pos f84, nI_z, q0]
    · have q0 : (lg_cmp (M.2.2.2.1 84 s) 0 = 0) = False := eq_false (fun q => h0 ((lg_cmp0 _ _).mp q))
      by_cases hk : M.2.2.2.1 84 s = w + 1
      · refine ⟨nI s, ?_, Or.inr ⟨s, hs, rfl, Or.inr hk⟩⟩
        refine (ge_X0_memoSpot_20 n 80 w (nI s) (nI x) M).trans ?_
        unfold T_X0_memoSpot_20
        have qk : (lg_cmp (M.2.2.2.1 84 s) (w + 1) = 0) = True := eq_true ((lg_cmp0 _ _).mpr hk)
        simp (disch := omega) only [hle, ↓reduceIte, ↓gd_pos (fO80 hW), ↓bnd_of (r_80_4 hW), ↓gd_pos f84, nI_z, q0, qk]
      · obtain ⟨r, y, q⟩ := ih (x + 1) (by omega) ((s + 1) % 8192) (Nat.mod_lt _ (by omega))
        refine ⟨r, ?_, q⟩
        refine (ge_X0_memoSpot_20 n 80 w (nI s) (nI x) M).trans ?_
        unfold T_X0_memoSpot_20
        have qk : (lg_cmp (M.2.2.2.1 84 s) (w + 1) = 0) = False := eq_false (fun q => hk ((lg_cmp0 _ _).mp q))
        simp (disch := omega) only [hle, ↓reduceIte, ↓gd_pos (fO80 hW), ↓bnd_of (r_80_4 hW), ↓gd_pos f84, nI_z, q0, qk, nI_1, an_nI]
        exact y
theorem an_47 (x : Int32) : ∃ s, s < 8192 ∧ x &&& 8191 = nI s := by
  obtain ⟨a, -, rfl⟩ := wb_of32 x
  exact ⟨a % 8192, Nat.mod_lt _ (by decide), an_nI a⟩
theorem c_memoSpot (hW : Wd M) (w : Int64) (n : Nat) : ∃ r, f_X0_memoSpot n 80 w M = some (r, M) ∧ SpO M w r := by
  obtain ⟨s, hs, e⟩ := an_47 (Int64.toInt32 (lushr (w * (-7046029254386353131)) 40))
  obtain ⟨r, y, q⟩ := ms_20 (n := n) hW w 8192 0 (by omega) s hs
  refine ⟨r, ?_, q⟩
  refine (ge_X0_memoSpot_0 n 80 w M).trans ?_
  unfold T_X0_memoSpot_0
  rw [e]
  exact y
set_option maxHeartbeats 1000000 in
theorem c_remember (hW : Wd M) {w v : Int64} (hM : MmO M C) (hC : C w v) (n : Nat) : ∃ M1, f_X0_remember (n + 1) 80 w v M = some ((), M1) ∧ Fr S84 M M1 ∧ MmO M1 C := by
  obtain ⟨r, y, q⟩ := c_memoSpot hW w n
  have ee : f_X0_remember (n + 1) 80 w v M = T_X0_remember_0 (fun v M => some (v, M)) none (n + 1) 80 w v M := rfl
  rw [ee]
  unfold T_X0_remember_0
  by_cases hf : (6144 : Int32) ≤ M.2.2.1 80 6
  · have qf := eq_true hf
    refine ⟨M, ?_, Fr.refl, hM⟩
    simp only [↓gd_pos (fO80 hW), ↓bnd2_of (show cal (n + 1) (fun zz => f_X0_memoSpot zz 80 w M) = _ from y), qf, ↓reduceIte]
  · have qf := eq_false hf
    rcases q with rfl | ⟨s, hs, rfl, -⟩
    · refine ⟨M, ?_, Fr.refl, hM⟩
      have q0 : ((-1 : Int32) < 0) = True := eq_true (by decide)
      simp only [↓gd_pos (fO80 hW), ↓bnd2_of (show cal (n + 1) (fun zz => f_X0_memoSpot zz 80 w M) = _ from y), qf, q0, ↓reduceIte]
    · have q0 : (nI s < (0 : Int32)) = False := nI_lt0 (by omega)
      have q2 : ((8192 : Int32) ≤ nI s) = False := eq_false (by rw [show (8192 : Int32) = nI 8192 from rfl, nI_le_ (by omega) (by omega)]; omega)
      obtain ⟨x, hx⟩ : ∃ x, x = (M.2.2.1 80 6) + 1 := ⟨_, rfl⟩
      refine ⟨wI (wJ (wJ M 84 s (w + 1)) 85 s v) 80 6 x, ?_, ?_, fun t ht => ?_⟩
      · simp (disch := omega) only [↓gd_pos (fO80 hW), ↓bnd2_of (show cal (n + 1) (fun zz => f_X0_memoSpot zz 80 w M) = _ from y), qf, q0, q2, ↓reduceIte, ↓bnd_of (r_80_4 hW), ↓gd_pos (fA84 hW hs), ↓bnd_of (r_80_5 hW), ↓gd_pos (fA85 hW hs), ← hx]
        simp (disch := omega) only [nI_z]
      · exact ((Fr.refl.wJ (by unfold S84; omega) _).wJ (by unfold S84; omega) _).wI (by unfold S84; omega) _
      · by_cases e : t = s
        · subst e
          refine Or.inr ?_
          rw [show (wI (wJ (wJ M 84 t (w + 1)) 85 t v) 80 6 x).2.2.2.1 84 t = w + 1 by simp [up2_if], show (wI (wJ (wJ M 84 t (w + 1)) 85 t v) 80 6 x).2.2.2.1 85 t = v by simp [up2_if], Int64.add_sub_cancel]
          exact hC
        · rw [show (wI (wJ (wJ M 84 s (w + 1)) 85 s v) 80 6 x).2.2.2.1 84 t = M.2.2.2.1 84 t by simp [up2_if, e], show (wI (wJ (wJ M 84 s (w + 1)) 85 s v) 80 6 x).2.2.2.1 85 t = M.2.2.2.1 85 t by simp [up2_if, e]]
          exact hM t ht
end MM6
