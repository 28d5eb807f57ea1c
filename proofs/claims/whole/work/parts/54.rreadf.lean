/-! THE REFERENCE's readFormula -/
def SRR (a k : Nat) : Prop := (a = 89 ∧ (k = 7 ∨ k = 29 ∨ k = 30 ∨ k = 31 ∨ k = 34)) ∨ a = 90 ∨ a = 91 ∨ a = 92 ∨ a = 93 ∨ a = 94
theorem SR_SRR : ∀ a k, SR a k → SRR a k := fun a k h => by unfold SR at h; unfold SRR; omega
theorem SP_SRR : ∀ a k, SP a k → SRR a k := fun a k h => by unfold SP at h; unfold SRR; omega
theorem TabR.fr {M M1 : Mem} {c : Nat} {S : Nat → Nat → Prop} (h : TabR M c) (hf : Fr S M M1) (h0 : ¬ S 89 7) (h1 : ∀ k, ¬ S 90 k) (h2 : ∀ k, ¬ S 91 k) (h3 : ∀ k, ¬ S 92 k) (h4 : ∀ k, ¬ S 93 k) (h5 : ∀ k, ¬ S 94 k) : TabR M1 c ∧ ∀ i, dR M1 i = dR M i := by
  have i0 := hf.int h0
  have i1 := hf.ints h1
  have i2 := hf.ints h2
  have i3 := hf.ints h3
  have i4 := hf.ints h4
  have i5 := hf.ints h5
  constructor
  · unfold TabR HR at h ⊢
    rw [i0, i1, i2, i3, i4, i5]
    exact h
  · intro i
    unfold dR
    rw [i1, i2, i3]
section RRF
variable {M : Mem} {b : Nat → Nat} {n : Nat}
theorem rx_fails (hW : Wd M) (k : Nat) (x y : Int32) : (M.2.2.1 89 30 = 0 → f_X11_fails k 89 x y M = some ((), wI (wI M 89 30 x) 89 31 y)) ∧ (¬ M.2.2.1 89 30 = 0 → f_X11_fails k 89 x y M = some ((), M)) := by
  unfold f_X11_fails b_X11_fails
  simp only [T_X11_fails_0, W_89 hW, gd_true, fO, fA, ex_in, bnd_s, bnd2_s, cal_s, Nat.reduceLT, true_and, and_true, and_self, nI_z, vp_iff, up2_if, Nat.reduceEqDiff, false_and, and_false, if_false, if_true, nI_1, nI_le_, nI_lt_, nI_lt0, nI_eq_, nI_add]
  exact ⟨fun h => if_pos h, fun h => if_neg h⟩
theorem rrf_eq (k : Nat) (M : Mem) : f_X11_readFormula (k + 1) 89 M = T_X11_readFormula_0 (fun c l M => lp (st_X11_readFormula (r_X11_readFormula k) (k + 1)) (c, l, M)) (fun v M => some (v, M)) none (r_X11_readFormula k) (k + 1) 89 M := ge_X11_readFormula_0 (r_X11_readFormula k) (k + 1) 89 M
theorem rrf_wrong (hW : Wd M) (k : Nat) (h : ¬ M.2.2.1 89 30 = 0) : f_X11_readFormula (k + 1) 89 M = some (0, M) := by
  rw [rrf_eq]
  simp only [T_X11_readFormula_0, W_89 hW, gd_true, fO, fA, ex_in, bnd_s, bnd2_s, cal_s, Nat.reduceLT, true_and, and_true, and_self, nI_z, vp_iff, up2_if, Nat.reduceEqDiff, false_and, and_false, if_false, if_true, nI_1, nI_le_, nI_lt_, nI_lt0, nI_eq_, nI_add, h]
/-- what the reading of one formula comes to -/
def RrEnd (M : Mem) (k c z w : Nat) (r : (Nat × Nat) ⊕ (List Nat × Nat)) : Prop := match r with
  | .inl e => ∃ (_ : Int32) (M1 : Mem) (c1 : Nat), f_X11_readFormula k 89 M = some (0, M1) ∧ Fr SRR M M1 ∧ M1.2.2.1 89 30 = nI e.1 ∧ M1.2.2.1 89 31 = nI e.2 ∧ TabR M1 c1 ∧ c ≤ c1 ∧ c1 ≤ c + 2 * z ∧ (∀ i, i < c → dR M1 i = dR M i) ∧ M1.2.2.1 89 29 = nI e.2
  | .inr q => ∃ f M1 c1, f_X11_readFormula k 89 M = some (nI f, M1) ∧ Fr SRR M M1 ∧ M1.2.2.1 89 30 = 0 ∧ M1.2.2.1 89 31 = M.2.2.1 89 31 ∧ M1.2.2.1 89 29 = nI q.2 ∧ M1.2.2.1 89 34 = nI (w + q.1.length) ∧ TabR M1 c1 ∧ c ≤ c1 ∧ c1 ≤ c + 2 * q.1.length ∧ (∀ i, i < c → dR M1 i = dR M i) ∧ f < c1 ∧ some (dR M1 f) = (ev q.1)[0]?
theorem scan_kd {b : Nat → Nat} {n : Nat} : ∀ {z p o : Nat} {e : Nat × Nat}, scan b n z p o = .inl e → e.1 = 1 ∨ e.1 = 4 := by
  intro z
  induction z with
  | zero =>
    intro p o e h
    cases o with
    | zero => rw [scan_z] at h; cases h
    | succ o =>
      cases h
      show (if _ then 4 else 1) = 1 ∨ (if _ then 4 else 1) = 4
      split <;> simp
  | succ z ih =>
    intro p o e h
    cases o with
    | zero => rw [scan_z] at h; cases h
    | succ o =>
      rw [scan_s] at h
      split at h
      · split at h
        · rename_i e' he
          cases h
          exact ih he
        · cases h
      · cases h
        exact Or.inl rfl
set_option maxHeartbeats 8000000 in
theorem rrf_main : ∀ (z k w p c : Nat) (M : Mem), w + z = 30 → z + 10 ≤ k → p ≤ n → Wd M → TxR M b n → M.2.2.1 89 29 = nI p → M.2.2.1 89 30 = 0 → M.2.2.1 89 34 = nI w → TabR M c → c + 2 * z + 2 ≤ 16384 → RrEnd M k c z w (scan b n z p 1) := by
  intro z
  induction z using Nat.strongRecOn with
  | ind z ih =>
  intro k w p c M hw hk hp hW hX h29 h30 h34 hT hroom
  obtain ⟨k, rfl⟩ : ∃ j, k = j + 6 := ⟨k - 6, by omega⟩
  have h6 := hX.2.1
  have hle := tq_le b n p hp
  obtain ⟨M1, a1, aF, a29⟩ := rx_word hW hX (k + 1) h29 hp
  have hW1 := aF.Wd hW
  have hX1 := hX.fr aF (by simp [SP]) (by simp [SP])
  have a30 : M1.2.2.1 89 30 = 0 := (aF.int (by simp [SP])).trans h30
  have a34 : M1.2.2.1 89 34 = nI w := (aF.int (by simp [SP])).trans h34
  obtain ⟨hT1, hd1⟩ := hT.fr aF (by simp [SP]) (by simp [SP]) (by simp [SP]) (by simp [SP]) (by simp [SP]) (by simp [SP])
  have hin := rx_isIn (M := M1) (k + 5) (Int32.toInt64 (wcd b (tq b n p) (te b n p - tq b n p))) (Int32.toInt64 0) (Int32.toInt64 12)
  rw [fa_wide_le, fa_wide_le] at hin
  have l0 : (0 : Int64) = Int32.toInt64 0 := by decide
  have l12 : (12 : Int64) = Int32.toInt64 12 := by decide
  -- a word that is none of a formula's, or one too many
  have bad : ∀ (kd : Nat), (tw b n p ≤ 12 → w = 30 ∧ kd = 4) → (¬ tw b n p ≤ 12 → kd = 1) → RrEnd M (k + 6) c z w (.inl (kd, tq b n p)) := by
    intro kd hk4 hk1
    refine ⟨0, wI (wI M1 89 30 (nI kd)) 89 31 (nI (tq b n p)), c, ?_, ((aF.mono SP_SRR).wI (by simp [SRR]) _).wI (by simp [SRR]) _, rfl, rfl, (hT1 : TabR _ c), Nat.le_refl _, by omega, fun i _ => hd1 i, a29⟩
    have j56 : ∀ x : Int32, ¬ nI kd = 0 → lp (st_X11_readFormula (r_X11_readFormula (k + 5)) (k + 6)) (56, [.ref 89, .int x], wI (wI M1 89 30 (nI kd)) 89 31 (nI (tq b n p))) = some (0, wI (wI M1 89 30 (nI kd)) 89 31 (nI (tq b n p))) := by
      intro x hne
      refine (ge_X11_readFormula_56 (r_X11_readFormula (k + 5)) (k + 6) 89 x _).trans ?_
      simp only [T_X11_readFormula_56, W_89 hW1, gd_true, fO, fA, ex_in, bnd_s, bnd2_s, cal_s, Nat.reduceLT, true_and, and_true, and_self, nI_z, vp_iff, up2_if, Nat.reduceEqDiff, false_and, and_false, if_false, if_true, nI_1, nI_le_, nI_lt_, nI_lt0, nI_eq_, nI_add, hne]
    rw [rrf_eq]
    by_cases h12 : tw b n p ≤ 12
    · obtain ⟨hw30, hkd⟩ := hk4 h12
      rcases tw_is b n p hp with ⟨t1, t2, t3, t4, t5, t6⟩ | ⟨t1, t2, t3⟩
      · have e1 := hin.1 (by rw [t2]; exact ⟨nI_pos' (by omega), (nI_leI (b := 12) (by omega) (by omega)).mpr h12⟩)
        have ef := (rx_fails hW1 (k + 5) 4 (nI (tq b n p))).1 a30
        subst hkd
        simp only [T_X11_readFormula_0, W_89 hW, W_89 hW1, gd_true, fO, fA, ex_in, bnd_s, bnd2_s, cal_s, Nat.reduceLT, true_and, and_true, and_self, nI_z, vp_iff, up2_if, Nat.reduceEqDiff, false_and, and_false, if_false, if_true, nI_1, nI_le_, nI_lt_, nI_lt0, nI_eq_, nI_add, h30, a1, l0, l12, e1, show ((1 : Int32) = 0) = False from eq_false (by decide), a34, hw30, show (nI 30 = (30 : Int32)) = True from eq_true rfl, a29, ef]
        exact j56 _ (by decide)
      · omega
    · have hkd := hk1 h12
      subst hkd
      have e1 := hin.2 (by
        rcases tw_is b n p hp with ⟨t1, t2, t3, t4, t5, t6⟩ | ⟨t1, t2, t3⟩
        · rw [t2]
          intro q
          exact h12 ((nI_leI (b := 12) (by omega) (by omega)).mp q.2)
        · rw [t2]
          intro q
          exact absurd q.1 (by decide))
      have ef := (rx_fails hW1 (k + 5) 1 (nI (tq b n p))).1 a30
      simp only [T_X11_readFormula_0, W_89 hW, W_89 hW1, gd_true, fO, fA, ex_in, bnd_s, bnd2_s, cal_s, Nat.reduceLT, true_and, and_true, and_self, nI_z, vp_iff, up2_if, Nat.reduceEqDiff, false_and, and_false, if_false, if_true, nI_1, nI_le_, nI_lt_, nI_lt0, nI_eq_, nI_add, h30, a1, l0, l12, e1, a29, ef]
      exact j56 _ (by decide)
  cases z with
  | zero =>
    show RrEnd M (k + 6) c 0 w (.inl (if tw b n p ≤ 12 then 4 else 1, tq b n p))
    by_cases h : tw b n p ≤ 12
    · rw [if_pos h]
      exact bad 4 (fun _ => ⟨by omega, rfl⟩) (fun q => (q h).elim)
    · rw [if_neg h]
      exact bad 1 (fun q => (h q).elim) (fun _ => rfl)
  | succ z =>
    show RrEnd M (k + 6) c (z + 1) w (scan b n (z + 1) p (0 + 1))
    rw [scan_s]
    by_cases h12 : tw b n p ≤ 12
    · rw [if_pos h12]
      rcases tw_is b n p hp with ⟨t1, t2, t3, t4, t5, t6⟩ | ⟨t1, t2, t3⟩
      · -- the word is read
        have e1 := hin.1 (by rw [t2]; exact ⟨nI_pos' (by omega), (nI_leI (b := 12) (by omega) (by omega)).mpr h12⟩)
        have hw30 : ¬ w = 30 := by omega
        rw [t2] at e1
        have s56 : f_X11_readFormula (k + 6) 89 M = lp (st_X11_readFormula (r_X11_readFormula (k + 5)) (k + 6)) (56, [.ref 89, .int (nI (tw b n p))], M1) := by
          rw [rrf_eq]
          simp (disch := omega) only [T_X11_readFormula_0, W_89 hW, W_89 hW1, gd_true, fO, fA, ex_in, bnd_s, bnd2_s, cal_s, Nat.reduceLT, true_and, and_true, and_self, nI_z, vp_iff, up2_if, Nat.reduceEqDiff, false_and, and_false, if_false, if_true, nI_1, nI_le_, nI_lt_, nI_lt0, nI_eq_, nI_add, h30, a1, l0, l12, e1, show ((1 : Int32) = 0) = False from eq_false (by decide), a34, show (30 : Int32) = nI 30 from rfl, hw30, t2]
        have hWw : Wd (wI M1 89 34 (nI (w + 1))) := hW1.wI _ _ _
        have hXw : TxR (wI M1 89 34 (nI (w + 1))) b n := hX1
        have tqq := tq_tq b n p hp
        obtain ⟨M2, b1, bF, b29⟩ := rx_letters hWw hXw (k + 3) (p := tq b n p) a29 hle.2.1
        rw [tqq.1, tqq.2] at b1
        rw [tqq.1] at b29
        have hW2 := bF.Wd hWw
        have hX2 := hXw.fr bF (by simp [SP]) (by simp [SP])
        -- the place behind the word
        have hM3 : wI M2 89 29 (nI (te b n p)) = wI M2 89 29 (nI (tq b n p + (te b n p - tq b n p))) := by rw [show tq b n p + (te b n p - tq b n p) = te b n p by omega]
        have F3 : Fr SRR M (wI M2 89 29 (nI (te b n p))) := (((aF.mono SP_SRR).wI (a := 89) (k := 34) (by simp [SRR]) _).trans (bF.mono SP_SRR)).wI (by simp [SRR]) _
        have hW3 := F3.Wd hW
        have hX3 : TxR (wI M2 89 29 (nI (te b n p))) b n := hX2
        have c30 : (wI M2 89 29 (nI (te b n p))).2.2.1 89 30 = 0 := (bF.int (by simp [SP])).trans a30
        have c31 : (wI M2 89 29 (nI (te b n p))).2.2.1 89 31 = M.2.2.1 89 31 := (bF.int (by simp [SP])).trans (aF.int (by simp [SP]))
        have c34 : (wI M2 89 29 (nI (te b n p))).2.2.1 89 34 = nI (w + 1) := bF.int (by simp [SP])
        have hT1w : TabR (wI M1 89 34 (nI (w + 1))) c := hT1
        obtain ⟨hT2, hd2⟩ := hT1w.fr bF (by simp [SP]) (by simp [SP]) (by simp [SP]) (by simp [SP]) (by simp [SP]) (by simp [SP])
        have hT3 : TabR (wI M2 89 29 (nI (te b n p))) c := hT2
        have hd3 : ∀ i, dR (wI M2 89 29 (nI (te b n p))) i = dR M i := fun i => (hd2 i).trans (hd1 i)
        generalize hgM3 : wI M2 89 29 (nI (te b n p)) = M3 at F3 hW3 hX3 c30 c31 c34 hT3 hd3 hM3
        have c29 : M3.2.2.1 89 29 = nI (te b n p) := by rw [← hgM3]; rfl
        have e56 : lp (st_X11_readFormula (r_X11_readFormula (k + 5)) (k + 6)) (56, [.ref 89, .int (nI (tw b n p))], M1) = if 8 < tw b n p then bnd2 (f_X11_readFormula (k + 5) 89 M3) none (fun v12 M13 => if tw b n p = 12 then gd (fO M13 89 11) none (bnd2 (f_X11_formula (k + 5) 89 8 (-1) (-1) M13) none (fun v27 M28 => lp (st_X11_readFormula (r_X11_readFormula (k + 5)) (k + 6)) (128, [.ref 89, .int (nI (tw b n p)), .int v12, .int v27], M28))) else gd (fO M13 89 11) none (bnd2 (f_X11_readFormula (k + 5) 89 M13) none (fun v20 M21 => lp (st_X11_readFormula (r_X11_readFormula (k + 5)) (k + 6)) (128, [.ref 89, .int (nI (tw b n p)), .int v12, .int v20], M21)))) else bnd2 (f_X11_formula (k + 5) 89 (nI (tw b n p)) (-1) (-1) M3) none (fun v32 M33 => some (v32, M33)) := by
          refine (ge_X11_readFormula_56 (r_X11_readFormula (k + 5)) (k + 6) 89 (nI (tw b n p)) M1).trans ?_
          simp (disch := omega) only [T_X11_readFormula_56, W_89 hW1, W_89 hW2, gd_true, fO, Nat.reduceLT, and_self, a30, if_true, a34, nI_1, cal_s, b1, bnd2_s, show (8 : Int32) = nI 8 from rfl, show (12 : Int32) = nI 12 from rfl, nI_lt_, nI_eq_, up2_if, Nat.reduceEqDiff, and_false, if_false, a29, nI_add, ← hM3]
        -- behind the parts: the whole
        have j128w : ∀ (x v12 v20 : Int32) (M' : Mem), Wd M' → ¬ M'.2.2.1 89 30 = 0 → lp (st_X11_readFormula (r_X11_readFormula (k + 5)) (k + 6)) (128, [.ref 89, .int x, .int v12, .int v20], M') = some (0, M') := by
          intro x v12 v20 M' hW' hne
          refine (ge_X11_readFormula_128 (r_X11_readFormula (k + 5)) (k + 6) 89 x v12 v20 M').trans ?_
          simp only [T_X11_readFormula_128, W_89 hW', gd_true, fO, fA, ex_in, bnd_s, bnd2_s, cal_s, Nat.reduceLT, true_and, and_true, and_self, nI_z, vp_iff, up2_if, Nat.reduceEqDiff, false_and, and_false, if_false, if_true, nI_1, nI_le_, nI_lt_, nI_lt0, nI_eq_, nI_add, hne]
        have j128 : ∀ (x v12 v20 : Int32) (M' : Mem), Wd M' → M'.2.2.1 89 30 = 0 → lp (st_X11_readFormula (r_X11_readFormula (k + 5)) (k + 6)) (128, [.ref 89, .int x, .int v12, .int v20], M') = bnd2 (f_X11_formula (k + 5) 89 (if x = 12 then 9 else x) v12 v20 M') none (fun v M => some (v, M)) := by
          intro x v12 v20 M' hW' h0
          refine (ge_X11_readFormula_128 (r_X11_readFormula (k + 5)) (k + 6) 89 x v12 v20 M').trans ?_
          simp only [T_X11_readFormula_128, W_89 hW', gd_true, fO, fA, ex_in, bnd_s, bnd2_s, cal_s, Nat.reduceLT, true_and, and_true, and_self, nI_z, vp_iff, up2_if, Nat.reduceEqDiff, false_and, and_false, if_false, if_true, nI_1, nI_le_, nI_lt_, nI_lt0, nI_eq_, nI_add, h0]
          by_cases q : x = 12
          · rw [if_pos q, if_pos q]
          · rw [if_neg q, if_neg q]
        by_cases h8 : tw b n p ≤ 8
        · -- an atom, or no
          have hop : opn 0 (tw b n p) = 0 := by unfold opn; rw [if_neg (by omega), if_neg (by omega)]
          rw [hop, scan_z]
          obtain ⟨i, c1, M4, g1, g2, g3, g4, g5, g6, g7, g8, -⟩ := r_formula hW3 hT3 (k + 5) (x := nI (tw b n p)) (y := -1) (z := -1) (f := .arg (tw b n p)) (Or.inl ⟨tw b n p, by omega, rfl, rfl, rfl, rfl⟩) (Or.inl (by omega))
          refine ⟨i, M4, c1, ?_, F3.trans (g8.mono SR_SRR), (g8.int (by simp [SR])).trans c30, (g8.int (by simp [SR])).trans c31, (g8.int (by simp [SR])).trans c29, (g8.int (by simp [SR])).trans c34, g5, g3, by show c1 ≤ c + 2 * 1; omega, fun j hj => (g7 j hj).trans (hd3 j), g2, ?_⟩
          · rw [s56, e56, if_neg (by omega), g1]
            rfl
          · show some (dR M4 i) = (ev [tw b n p])[0]?
            rw [g6, ev_leaf [] (by omega)]
            rfl
        · by_cases hnot : tw b n p = 12
          · -- not
            have hop : opn 0 (tw b n p) = 1 := by unfold opn; rw [if_pos hnot]
            rw [hop]
            have hih := ih z (by omega) (k + 5) (w + 1) (te b n p) c M3 (by omega) (by omega) hle.2.2.2 hW3 hX3 c29 c30 c34 hT3 (by omega)
            cases hs : scan b n z (te b n p) 1 with
            | inl e =>
              rw [hs] at hih
              obtain ⟨v, M4, c1, x1, x2, x3, x4, x5, x6, x7, x8, x9⟩ := hih
              have hW4 := x2.Wd hW3
              have hne : ¬ M4.2.2.1 89 30 = 0 := by
                rw [x3]
                have := scan_kd hs
                exact nI_ne0 (by omega) (by omega)
              obtain ⟨i, c2, M5, g1, g2, g3, g4, g5, g6, g7, g8, -⟩ := r_formula hW4 x5 (k + 5) (x := nI 8) (y := -1) (z := -1) (f := .arg 8) (Or.inl ⟨8, by omega, rfl, rfl, rfl, rfl⟩) (Or.inl (by omega))
              have hW5 := g8.Wd hW4
              refine ⟨0, M5, c2, ?_, (F3.trans x2).trans (g8.mono SR_SRR), (g8.int (by simp [SR])).trans x3, (g8.int (by simp [SR])).trans x4, g5, by omega, by omega, fun j hj => (g7 j (by omega)).trans ((x8 j hj).trans (hd3 j)), (g8.int (by simp [SR])).trans x9⟩
              rw [s56, e56, if_pos (by omega), x1, bnd2_s, if_pos hnot, gd_pos ⟨by rw [hW4.1]; decide, s_89 hW4⟩]
              rw [show (8 : Int32) = nI 8 from rfl, g1, bnd2_s]
              exact j128w _ _ _ M5 hW5 (by rw [g8.int (by simp [SR])]; exact hne)
            | inr r =>
              rw [hs] at hih
              obtain ⟨f, M4, c1, x1, x2, x3, x4, x5, x6, x7, x8, x9, x10, x11, x12⟩ := hih
              have hlen := scan_len (l := r.1) (q := r.2) hs
              have hW4 := x2.Wd hW3
              obtain ⟨i, c2, M5, g1, g2, g3, g4, g5, g6, g7, g8, -⟩ := r_formula hW4 x7 (k + 5) (x := nI 8) (y := -1) (z := -1) (f := .arg 8) (Or.inl ⟨8, by omega, rfl, rfl, rfl, rfl⟩) (Or.inl (by omega))
              have hW5 := g8.Wd hW4
              have d30 : M5.2.2.1 89 30 = 0 := (g8.int (by simp [SR])).trans x3
              obtain ⟨u, c3, M6, y1, y2, y3, y4, y5, y6, y7, y8, -⟩ := r_formula hW5 g5 (k + 5) (x := nI 9) (y := nI f) (z := nI i) (f := mkF 9 (dR M5 f) (dR M5 i)) (Or.inr ⟨9, f, i, by omega, by omega, by omega, g2, rfl, rfl, rfl, rfl⟩) (Or.inl (by omega))
              refine ⟨u, M6, c3, ?_, ((F3.trans x2).trans (g8.mono SR_SRR)).trans (y8.mono SR_SRR), (y8.int (by simp [SR])).trans d30, (y8.int (by simp [SR])).trans ((g8.int (by simp [SR])).trans (x4.trans c31)), (y8.int (by simp [SR])).trans ((g8.int (by simp [SR])).trans x5), ?_, y5, by omega, ?_, fun j hj => (y7 j (by omega)).trans ((g7 j (by omega)).trans ((x10 j hj).trans (hd3 j))), y2, ?_⟩
              · rw [s56, e56, if_pos (by omega), x1, bnd2_s, if_pos hnot, gd_pos ⟨by rw [hW4.1]; decide, s_89 hW4⟩]
                rw [show (8 : Int32) = nI 8 from rfl, g1, bnd2_s, j128 _ _ _ M5 hW5 d30, if_pos (by rw [hnot]; rfl)]
                rw [show (9 : Int32) = nI 9 from rfl, y1, bnd2_s]
              · show M6.2.2.1 89 34 = nI (w + (tw b n p :: r.1).length)
                rw [(y8.int (by simp [SR])).trans ((g8.int (by simp [SR])).trans x6)]
                congr 1
                simp only [List.length_cons]
                omega
              · show c3 ≤ c + 2 * (tw b n p :: r.1).length
                simp only [List.length_cons]
                omega
              · show some (dR M6 u) = (ev (tw b n p :: r.1))[0]?
                rw [y6, hnot, ev_12, g6, g7 f (by omega)]
                have hch := (scan_chk (l := r.1) (q := r.2) hle.2.2.2 hs).1
                have hl1 := (ev_app hch).1
                cases hh : ev r.1 with
                | nil => rw [hh] at hl1; simp at hl1
                | cons x t =>
                  rw [hh] at x12
                  have hx : dR M4 f = x := Option.some.inj x12
                  rw [hx]
                  rfl
          · -- one of two
            have hop : opn 0 (tw b n p) = 1 + 1 := by unfold opn; rw [if_neg hnot, if_pos (by omega)]
            rw [hop, scan_add]
            have hih := ih z (by omega) (k + 5) (w + 1) (te b n p) c M3 (by omega) (by omega) hle.2.2.2 hW3 hX3 c29 c30 c34 hT3 (by omega)
            cases hs : scan b n z (te b n p) 1 with
            | inl e =>
              rw [hs] at hih
              obtain ⟨v, M4, c1, x1, x2, x3, x4, x5, x6, x7, x8, x9⟩ := hih
              have hW4 := x2.Wd hW3
              have hne : ¬ M4.2.2.1 89 30 = 0 := by
                rw [x3]
                have := scan_kd hs
                exact nI_ne0 (by omega) (by omega)
              refine ⟨0, M4, c1, ?_, F3.trans x2, x3, x4, x5, x6, by omega, fun j hj => (x8 j hj).trans (hd3 j), x9⟩
              rw [s56, e56, if_pos (by omega), x1, bnd2_s, if_neg hnot, gd_pos ⟨by rw [hW4.1]; decide, s_89 hW4⟩, rrf_wrong hW4 (k + 4) hne, bnd2_s]
              exact j128w _ _ _ M4 hW4 hne
            | inr r =>
              rw [hs] at hih
              obtain ⟨f, M4, c1, x1, x2, x3, x4, x5, x6, x7, x8, x9, x10, x11, x12⟩ := hih
              have hlen := scan_len (l := r.1) (q := r.2) hs
              have hchk := scan_chk (l := r.1) (q := r.2) hle.2.2.2 hs
              have hW4 := x2.Wd hW3
              have hX4 := hX3.fr x2 (by simp [SRR]) (by simp [SRR])
              have hih2 := ih (z - r.1.length) (by omega) (k + 5) (w + 1 + r.1.length) r.2 c1 M4 (by omega) (by omega) hchk.2 hW4 hX4 x5 x3 x6 x7 (by omega)
              show RrEnd M (k + 6) c (z + 1) w (match (match scan b n (z - r.1.length) r.2 1 with
                | .inl e => Sum.inl e
                | .inr s => .inr (r.1 ++ s.1, s.2)) with
                | .inl e => Sum.inl e
                | .inr q => .inr (tw b n p :: q.1, q.2))
              cases hs2 : scan b n (z - r.1.length) r.2 1 with
              | inl e =>
                rw [hs2] at hih2
                obtain ⟨v, M5, c2, z1, z2, z3, z4, z5, z6, z7, z8, z9⟩ := hih2
                have hW5 := z2.Wd hW4
                have hne : ¬ M5.2.2.1 89 30 = 0 := by
                  rw [z3]
                  have := scan_kd hs2
                  exact nI_ne0 (by omega) (by omega)
                refine ⟨0, M5, c2, ?_, (F3.trans x2).trans z2, z3, z4, z5, by omega, by omega, fun j hj => (z8 j (by omega)).trans ((x10 j hj).trans (hd3 j)), z9⟩
                rw [s56, e56, if_pos (by omega), x1, bnd2_s, if_neg hnot, gd_pos ⟨by rw [hW4.1]; decide, s_89 hW4⟩, z1, bnd2_s]
                exact j128w _ _ _ M5 hW5 hne
              | inr r2 =>
                rw [hs2] at hih2
                obtain ⟨f2, M5, c2, z1, z2, z3, z4, z5, z6, z7, z8, z9, z10, z11, z12⟩ := hih2
                have hlen2 := scan_len (l := r2.1) (q := r2.2) hs2
                have hW5 := z2.Wd hW4
                obtain ⟨u, c3, M6, y1, y2, y3, y4, y5, y6, y7, y8, -⟩ := r_formula hW5 z7 (k + 5) (x := nI (tw b n p)) (y := nI f) (z := nI f2) (f := mkF (tw b n p) (dR M5 f) (dR M5 f2)) (Or.inr ⟨tw b n p, f, f2, by omega, by omega, by omega, z11, rfl, rfl, rfl, rfl⟩) (Or.inl (by omega))
                have hx12 : ¬ nI (tw b n p) = 12 := fun q => hnot ((nI_eq (b := 12) (by omega) (by omega)).mp q)
                refine ⟨u, M6, c3, ?_, ((F3.trans x2).trans z2).trans (y8.mono SR_SRR), (y8.int (by simp [SR])).trans z3, (y8.int (by simp [SR])).trans (z4.trans (x4.trans c31)), (y8.int (by simp [SR])).trans z5, ?_, y5, by omega, ?_, fun j hj => (y7 j (by omega)).trans ((z10 j (by omega)).trans ((x10 j hj).trans (hd3 j))), y2, ?_⟩
                · rw [s56, e56, if_pos (by omega), x1, bnd2_s, if_neg hnot, gd_pos ⟨by rw [hW4.1]; decide, s_89 hW4⟩, z1, bnd2_s, j128 _ _ _ M5 hW5 z3, if_neg hx12, y1, bnd2_s]
                · show M6.2.2.1 89 34 = nI (w + (tw b n p :: (r.1 ++ r2.1)).length)
                  rw [(y8.int (by simp [SR])).trans z6]
                  congr 1
                  simp only [List.length_cons, List.length_append]
                  omega
                · show c3 ≤ c + 2 * (tw b n p :: (r.1 ++ r2.1)).length
                  simp only [List.length_cons, List.length_append]
                  omega
                · show some (dR M6 u) = (ev (tw b n p :: (r.1 ++ r2.1)))[0]?
                  have hap := ev_app hchk.1
                  have hch2 := (ev_app (scan_chk (l := r2.1) (q := r2.2) hchk.2 hs2).1).1
                  rw [y6, ev_bin _ (by omega) hnot, hap.2, z10 f (by omega)]
                  cases hh : ev r.1 with
                  | nil => rw [hh] at hap; have := hap.1; simp at this
                  | cons x t =>
                    have ht : t = [] := by
                      have := hap.1
                      rw [hh] at this
                      simp only [List.length_cons] at this
                      exact List.eq_nil_of_length_eq_zero (by omega)
                    subst ht
                    cases hh2 : ev r2.1 with
                    | nil => rw [hh2] at hch2; simp at hch2
                    | cons y t2 =>
                      rw [hh] at x12
                      rw [hh2] at z12
                      have hx : dR M4 f = x := Option.some.inj x12
                      have hy : dR M5 f2 = y := Option.some.inj z12
                      rw [hx, hy]
                      rfl
      · omega
    · rw [if_neg h12]
      exact bad 1 (fun q => (h12 q).elim) (fun _ => rfl)
theorem scan_pl {b : Nat → Nat} {n : Nat} : ∀ {z p o : Nat} {e : Nat × Nat}, p ≤ n → scan b n z p o = .inl e → e.2 ≤ n := by
  intro z
  induction z with
  | zero =>
    intro p o e hp h
    cases o with
    | zero => rw [scan_z] at h; cases h
    | succ o =>
      cases h
      exact (tq_le b n p hp).2.1
  | succ z ih =>
    intro p o e hp h
    cases o with
    | zero => rw [scan_z] at h; cases h
    | succ o =>
      rw [scan_s] at h
      split at h
      · split at h
        · rename_i e' he
          cases h
          exact ih (tq_le b n p hp).2.2.2 he
        · cases h
      · cases h
        exact (tq_le b n p hp).2.1
end RRF
