/-! THE DECIDER in the class: takeParts, whole -/
section TW8
variable {M M0 M1 : Mem} {m n : Nat} {kd lf rt : Nat → Nat}
theorem tp_loop (h3 : ∀ i j, i < m → j < m → kd i = kd j → kd i < 9 → i = j) : ∀ z i, i + z = m → ∀ (M : Mem), Wd M → TkP M m kd lf rt → DcI M m kd lf rt i → ∃ M1, lp (st_X0_takeParts (n + 1)) (23, [.ref 80, .int (nI i)], M) = some ((), M1) ∧ Fr S81 M M1 ∧ DcP M1 m kd lf rt := by
  intro z
  induction z with
  | zero =>
    intro i hi M hW hT hD
    have h40 := hT.2.1
    have e : i = m := by omega
    subst e
    refine ⟨M, ?_, Fr.refl, hD.1, h40, hD.2.1, hD.2.2⟩
    refine (ge_X0_takeParts_23 (n + 1) 80 (nI i) M).trans ?_
    unfold T_X0_takeParts_23
    have hle : (nI i ≤ nI i) = True := eq_true (by rw [nI_le_ (by omega) (by omega)]; omega)
    simp only [↓gd_pos (fO80 hW), hD.1, hle, ↓reduceIte]
  | succ z ih =>
    intro i hi M hW hT hD
    obtain ⟨M1, y1, F1, D1⟩ := tp_one (n := n) hW hT h3 (show i < m by omega) hD
    obtain ⟨M2, y2, F2, D2⟩ := ih (i + 1) (by omega) M1 (F1.Wd hW) (hT.fr F1) D1
    exact ⟨M2, y1.trans y2, F1.trans F2, D2⟩
theorem c_takeParts (hW : Wd M) (hT : TkP M m kd lf rt) (h3 : ∀ i j, i < m → j < m → kd i = kd j → kd i < 9 → i = j) (n : Nat) : ∃ M1, f_X0_takeParts (n + 1) 80 M = some ((), M1) ∧ Fr S81 M M1 ∧ DcP M1 m kd lf rt := by
  have h40 := hT.2.1
  obtain ⟨Ma, hMa⟩ : ∃ Ma, Ma = wJ (wI M 80 7 (nI m)) 80 9 0 := ⟨_, rfl⟩
  have Fa : Fr S81 M Ma := by
    rw [hMa]
    exact (Fr.refl.wI (by unfold S81; omega) _).wJ (by unfold S81; omega) _
  obtain ⟨M1, y, F1, D1⟩ := tp_loop (n := n) h3 m 0 (by omega) Ma (Fa.Wd hW) (hT.fr Fa) ⟨by rw [hMa]; simp [up2_if], fun j hj => by omega, fun j => by
    rw [show Ma.2.2.2.1 80 9 = 0 by rw [hMa]; simp [up2_if], b64_0]
    exact ⟨fun q => absurd q Bool.false_ne_true, fun q => by omega⟩⟩
  refine ⟨M1, ?_, Fa.trans F1, D1⟩
  refine (ge_X0_takeParts_0 (n + 1) 80 M).trans ?_
  unfold T_X0_takeParts_0
  have hlt : ((40 : Int32) < nI m) = False := eq_false (by rw [show (40 : Int32) = nI 40 from rfl, nI_lt_ (by omega) (by omega)]; omega)
  simp only [↓gd_pos (fO80 hW), ↓bnd_of (r_80_0 hW), ↓gd_pos (fO74 hW), ↓gd_pos (show 1 ≤ n + 1 by omega), hT.1, hlt, ↓reduceIte, ← hMa]
  exact y
end TW8
