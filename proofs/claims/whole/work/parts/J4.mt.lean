/-! THE DECIDER in the class: an open or; what matters -/
def dnI : Nat → Int32
  | 0 => -1
  | k + 1 => nI k
theorem dnI_m (k : Nat) : nI k + (-1) = dnI k := by
  cases k with
  | zero => rfl
  | succ k => exact nI_m1 k
theorem dnI_s {k : Nat} (h : 0 < k) (h2 : k < 1000) : nI k - 1 = dnI k := by
  obtain ⟨z, rfl⟩ : ∃ z, k = z + 1 := ⟨k - 1, by omega⟩
  exact nI_sub (b := 1) (by omega) (by omega)
section MT4
variable {M M1 : Mem} {m n : Nat} {kd lf rt : Nat → Nat} {asked granted : Nat → Prop}
set_option maxHeartbeats 1000000 in
theorem oo_2 (hW : Wd M) (hD : DcP M m kd lf rt) (hlt : ∀ i, i < m → 9 ≤ kd i → lf i < i ∧ rt i < i) (h11 : ∀ i, i < m → kd i ≤ 11) (w : Int64) : ∀ z i, i + z = m → (∀ i', i' < i → kd i' = 11 → St w i' → St w (lf i') ∨ St w (rt i')) → (lp (st_X0_openOr n) (2, [.ref 80, .long w, .int (nI i)], M) = some (-1, M) ∧ Pri m kd lf rt (St w)) ∨ ∃ e, e < m ∧ kd e = 11 ∧ St w e ∧ ¬ St w (lf e) ∧ ¬ St w (rt e) ∧ lp (st_X0_openOr n) (2, [.ref 80, .long w, .int (nI i)], M) = some (nI e, M) := by
  have h40 := hD.2.1
  intro z
  induction z with
  | zero =>
    intro i hi hp
    refine Or.inl ⟨?_, fun i' h1 => hp i' (by omega)⟩
    refine (ge_X0_openOr_2 n 80 w (nI i) M).trans ?_
    unfold T_X0_openOr_2
    have hle : (nI m ≤ nI i) = True := eq_true (by rw [nI_le_ (by omega) (by omega)]; omega)
    simp only [↓gd_pos (fO80 hW), hD.1, hle, ↓reduceIte]
  | succ z ih =>
    intro i hi hp
    obtain ⟨k1, k2, -⟩ := hD.2.2.1 i (by omega)
    have hle : (nI m ≤ nI i) = False := eq_false (by rw [nI_le_ (by omega) (by omega)]; omega)
    have f81 := fA81 hW (show i < 40 by omega)
    have f82 := fA82 hW (show i < 40 by omega)
    have f83 := fA83 hW (show i < 40 by omega)
    have hk11 := h11 i (by omega)
    have step : ∀ (q : kd i = 11 → St w i → St w (lf i) ∨ St w (rt i)), lp (st_X0_openOr n) (2, [.ref 80, .long w, .int (nI i)], M) = lp (st_X0_openOr n) (2, [.ref 80, .long w, .int (nI (i + 1))], M) → (lp (st_X0_openOr n) (2, [.ref 80, .long w, .int (nI i)], M) = some (-1, M) ∧ Pri m kd lf rt (St w)) ∨ ∃ e, e < m ∧ kd e = 11 ∧ St w e ∧ ¬ St w (lf e) ∧ ¬ St w (rt e) ∧ lp (st_X0_openOr n) (2, [.ref 80, .long w, .int (nI i)], M) = some (nI e, M) := by
      intro q ey
      rw [ey]
      exact ih (i + 1) (by omega) (fun i' h1 => by
        by_cases e : i' = i
        · subst e; exact q
        · exact hp i' (by omega))
    by_cases e11 : kd i = 11
    · obtain ⟨k3, k4⟩ := k2 (by omega)
      obtain ⟨l1, l2⟩ := hlt i (by omega) (by omega)
      rw [e11] at k1
      have q11 : (nI 11 = (11 : Int32)) = True := eq_true rfl
      by_cases hA : b64 w i = true
      · have qA : (b64 w i = false) = False := eq_false (by rw [hA]; exact Bool.noConfusion)
        by_cases hBC : b64 w (lf i) = false ∧ b64 w (rt i) = false
        · refine Or.inr ⟨i, by omega, e11, hA, fun q => ?_, fun q => ?_, ?_⟩
          · have q : b64 w (lf i) = true := q
            rw [hBC.1] at q; cases q
          · have q : b64 w (rt i) = true := q
            rw [hBC.2] at q; cases q
          · refine (ge_X0_openOr_2 n 80 w (nI i) M).trans ?_
            unfold T_X0_openOr_2
            have qB := eq_true hBC
            simp (disch := omega) only [↓gd_pos (fO80 hW), hD.1, hle, ↓reduceIte, ↓bnd_of (r_80_1 hW), ↓gd_pos f81, nI_z, k1, q11, cm_sh (show i < 64 by omega), qA, ↓bnd_of (r_80_2 hW), ↓gd_pos f82, ↓bnd_of (r_80_3 hW), ↓gd_pos f83, k3, k4, cm_bt2 (show lf i < 40 by omega) (show rt i < 40 by omega), qB]
        · refine step (fun _ _ => ?_) ?_
          · show b64 w (lf i) = true ∨ b64 w (rt i) = true
            cases hB : b64 w (lf i) with
            | true => exact Or.inl rfl
            | false =>
              cases hC : b64 w (rt i) with
              | true => exact Or.inr rfl
              | false => exact absurd ⟨hB, hC⟩ hBC
          · refine (ge_X0_openOr_2 n 80 w (nI i) M).trans ?_
            unfold T_X0_openOr_2
            have qB := eq_false hBC
            simp (disch := omega) only [↓gd_pos (fO80 hW), hD.1, hle, ↓reduceIte, ↓bnd_of (r_80_1 hW), ↓gd_pos f81, nI_z, k1, q11, cm_sh (show i < 64 by omega), qA, ↓bnd_of (r_80_2 hW), ↓gd_pos f82, ↓bnd_of (r_80_3 hW), ↓gd_pos f83, k3, k4, cm_bt2 (show lf i < 40 by omega) (show rt i < 40 by omega), qB, nI_1]
      · refine step (fun _ q => absurd q hA) ?_
        refine (ge_X0_openOr_2 n 80 w (nI i) M).trans ?_
        unfold T_X0_openOr_2
        have qA : (b64 w i = false) = True := eq_true (Bool.eq_false_iff.mpr hA)
        simp (disch := omega) only [↓gd_pos (fO80 hW), hD.1, hle, ↓reduceIte, ↓bnd_of (r_80_1 hW), ↓gd_pos f81, nI_z, k1, q11, cm_sh (show i < 64 by omega), qA, nI_1]
    · refine step (fun q => absurd q e11) ?_
      refine (ge_X0_openOr_2 n 80 w (nI i) M).trans ?_
      unfold T_X0_openOr_2
      have q11 : (nI (kd i) = (11 : Int32)) = False := eq_false (fun q => e11 ((nI_eq (by omega) (by omega)).mp q))
      simp (disch := omega) only [↓gd_pos (fO80 hW), hD.1, hle, ↓reduceIte, ↓bnd_of (r_80_1 hW), ↓gd_pos f81, nI_z, k1, q11, nI_1]
theorem c_openOr (hW : Wd M) (hD : DcP M m kd lf rt) (hP : PtOk m kd lf rt asked granted) (w : Int64) (n : Nat) : (f_X0_openOr n 80 w M = some (-1, M) ∧ Pri m kd lf rt (St w)) ∨ ∃ e, e < m ∧ kd e = 11 ∧ St w e ∧ ¬ St w (lf e) ∧ ¬ St w (rt e) ∧ f_X0_openOr n 80 w M = some (nI e, M) := by
  have h := oo_2 (n := n) hW hD hP.2.1 hP.1 w m 0 (by omega) (fun i' q => by omega)
  have e : f_X0_openOr n 80 w M = lp (st_X0_openOr n) (2, [.ref 80, .long w, .int (nI 0)], M) := ge_X0_openOr_0 n 80 w M
  rw [e]
  exact h
set_option maxHeartbeats 1000000 in
theorem mt_116 (hW : Wd M) (hD : DcP M m kd lf rt) (hlt : ∀ i, i < m → 9 ≤ kd i → lf i < i ∧ rt i < i) (h11 : ∀ i, i < m → kd i ≤ 11) : ∀ i, i ≤ m → ∀ v, (∀ i', i ≤ i' → i' < m → (kd i' = 10 ∨ kd i' = 11) → St v i' → St v (lf i') ∧ St v (rt i')) → ∃ v', lp (st_X0_mattering n) (116, [.ref 80, .long v, .int (dnI i)], M) = some (v', M) ∧ SbS v v' ∧ ∀ i', i' < m → (kd i' = 10 ∨ kd i' = 11) → St v' i' → St v' (lf i') ∧ St v' (rt i') := by
  have h40 := hD.2.1
  intro i
  induction i with
  | zero =>
    intro hi v hv
    refine ⟨v, ?_, fun _ q => q, fun i' h1 => hv i' (by omega) h1⟩
    refine (ge_X0_mattering_116 n 80 v (dnI 0) M).trans ?_
    unfold T_X0_mattering_116
    have h0 : (dnI 0 < (0 : Int32)) = True := eq_true (by decide)
    simp only [h0, ↓reduceIte]
  | succ i ih =>
    intro hi v hv
    obtain ⟨k1, k2, -⟩ := hD.2.2.1 i (by omega)
    have f81 := fA81 hW (show i < 40 by omega)
    have f82 := fA82 hW (show i < 40 by omega)
    have f83 := fA83 hW (show i < 40 by omega)
    have hk11 := h11 i (by omega)
    have h0 : (nI i < (0 : Int32)) = False := nI_lt0 (by omega)
    have same : (¬ (kd i = 10 ∨ kd i = 11) ∨ ¬ St v i) → ∀ i', i ≤ i' → i' < m → (kd i' = 10 ∨ kd i' = 11) → St v i' → St v (lf i') ∧ St v (rt i') := fun q i' h1 h2 h3 h4 => by
      by_cases e : i' = i
      · subst e
        exact q.elim (fun r => absurd h3 r) (fun r => absurd h4 r)
      · exact hv i' (by omega) h2 h3 h4
    show ∃ v', lp (st_X0_mattering n) (116, [.ref 80, .long v, .int (nI i)], M) = _ ∧ _
    by_cases h10 : kd i = 10 ∨ kd i = 11
    · obtain ⟨k3, k4⟩ := k2 (by omega)
      obtain ⟨l1, l2⟩ := hlt i (by omega) (by omega)
      have hk : (nI (kd i) ≤ (9 : Int32)) = False := eq_false (by rw [show (9 : Int32) = nI 9 from rfl, nI_le_ (by omega) (by omega)]; omega)
      by_cases hA : b64 v i = true
      · have qA : (b64 v i = false) = False := eq_false (by rw [hA]; exact Bool.noConfusion)
        obtain ⟨v1, hv1⟩ : ∃ v1, v1 = v ||| (bt (lf i) ||| bt (rt i)) := ⟨_, rfl⟩
        have mem : ∀ j, St v1 j ↔ St v j ∨ lf i = j ∨ rt i = j := fun j => by
          show b64 v1 j = true ↔ _
          rw [hv1, b64_or, b64_or, Bool.or_eq_true, Bool.or_eq_true, bt_mem (by omega), bt_mem (by omega)]
        obtain ⟨v', y, s1, s2⟩ := ih (by omega) v1 (fun i' h1 h2 h3 h4 => by
          by_cases e : i' = i
          · subst e
            exact ⟨(mem _).mpr (Or.inr (Or.inl rfl)), (mem _).mpr (Or.inr (Or.inr rfl))⟩
          · have h5 : St v i' := ((mem i').mp h4).elim id (fun q => by omega)
            have := hv i' (by omega) h2 h3 h5
            exact ⟨(mem _).mpr (Or.inl this.1), (mem _).mpr (Or.inl this.2)⟩)
        refine ⟨v', ?_, fun j q => s1 j ((mem j).mpr (Or.inl q)), s2⟩
        rw [← y, hv1]
        refine (ge_X0_mattering_116 n 80 v (nI i) M).trans ?_
        unfold T_X0_mattering_116
        simp (disch := omega) only [h0, ↓gd_pos (fO80 hW), ↓reduceIte, ↓bnd_of (r_80_1 hW), ↓gd_pos f81, nI_z, k1, hk, cm_sh (show i < 64 by omega), qA, ↓bnd_of (r_80_2 hW), ↓gd_pos f82, ↓bnd_of (r_80_3 hW), ↓gd_pos f83, k3, k4, dnI_m]
      · obtain ⟨v', y, s1, s2⟩ := ih (by omega) v (same (Or.inr hA))
        refine ⟨v', ?_, s1, s2⟩
        rw [← y]
        refine (ge_X0_mattering_116 n 80 v (nI i) M).trans ?_
        unfold T_X0_mattering_116
        have qA : (b64 v i = false) = True := eq_true (Bool.eq_false_iff.mpr hA)
        simp (disch := omega) only [h0, ↓gd_pos (fO80 hW), ↓reduceIte, ↓bnd_of (r_80_1 hW), ↓gd_pos f81, nI_z, k1, hk, cm_sh (show i < 64 by omega), qA, dnI_m]
    · obtain ⟨v', y, s1, s2⟩ := ih (by omega) v (same (Or.inl h10))
      refine ⟨v', ?_, s1, s2⟩
      rw [← y]
      refine (ge_X0_mattering_116 n 80 v (nI i) M).trans ?_
      unfold T_X0_mattering_116
      have hk : (nI (kd i) ≤ (9 : Int32)) = True := eq_true (by rw [show (9 : Int32) = nI 9 from rfl, nI_le_ (by omega) (by omega)]; omega)
      simp (disch := omega) only [h0, ↓gd_pos (fO80 hW), ↓reduceIte, ↓bnd_of (r_80_1 hW), ↓gd_pos f81, nI_z, k1, hk, dnI_m]
end MT4
