/-! SPELLING: words and formulas, in the reference -/
section SF4
variable {M : Mem} {q : Nat} {l : List Nat}
theorem TlS.w42 (k : Nat) {w : Nat} (hw : w < 22) : ∀ z t, t + z = wlen w → ∀ (M : Mem) (l : List Nat), Wd M → TlS M q l → tcn (l ++ (wrd w).drop t) < 4294967295 → ∃ M1, lp (st_X11_tellsWord (k + 5)) (42, [.ref 89, .int (nI (woff w + t))], M) = some ((), M1) ∧ Fr STq M M1 ∧ TlS M1 q (l ++ (wrd w).drop t) := by
  have ho := woff_is.2 w hw
  have hl5 := (wch_is w hw).1
  intro z
  induction z with
  | zero =>
    intro t ht M l hW hS hb
    have hv : vp_in (nI (woff w + t)) 74 := vp_nI (by omega) (by omega)
    refine ⟨M, ?_, Fr.refl, ?_⟩
    · refine (ge_X11_tellsWord_42 (k + 5) 89 _ M).trans ?_
      have e : t = wlen w := by omega
      subst e
      simp (disch := omega) only [T_X11_tellsWord_42, nI_z, hv, and_true, ho.2.1, if_true]
      rw [gd_pos (show 4 ≤ k + 5 by omega)]
    · rw [List.drop_of_length_le (by rw [wrd_len]; omega), List.append_nil]
      exact hS
  | succ z ih =>
    intro t ht M l hW hS hb
    have hv : vp_in (nI (woff w + t)) 74 := vp_nI (by omega) (by omega)
    have hch := ho.2.2 t (by omega) (by omega)
    have hx := ((wch_is w hw).2 t (by omega)).1
    unfold isLt at hx
    have hne : ¬ tch 1 (woff w + t) = 32 := by
      rw [hch.1, show (32 : Int32) = nI 32 from rfl, nI_eq_ (by omega) (by omega)]
      exact hch.2
    have hd : (wrd w).drop t = wch w t :: (wrd w).drop (t + 1) := by
      rw [List.drop_eq_getElem_cons (by rw [wrd_len]; omega)]
      simp [wrd]
    rw [hd, show l ++ wch w t :: (wrd w).drop (t + 1) = (l ++ [wch w t]) ++ (wrd w).drop (t + 1) by simp] at hb
    obtain ⟨M1, e1, F1, S1⟩ := hS.tell hW (k + 4) (wch w t) (Or.inl hch.2) (Nat.lt_of_le_of_lt (tcn_m _ _) hb)
    obtain ⟨M2, e2, F2, S2⟩ := ih (t + 1) (by omega) M1 (l ++ [wch w t]) (F1.Wd hW) S1 hb
    refine ⟨M2, ?_, F1.trans F2, ?_⟩
    · refine (ge_X11_tellsWord_42 (k + 5) 89 _ M).trans ?_
      obtain ⟨n, hn⟩ : ∃ n, n = k + 4 := ⟨_, rfl⟩
      have h4 : 4 ≤ n + 1 := by omega
      rw [show k + 5 = n + 1 by omega] at e2 ⊢
      rw [← hn] at e1
      simp (disch := omega) only [T_X11_tellsWord_42, nI_z, hv, and_true, if_neg hne, hch.1, gd_pos h4, W_89 hW, gd_true, fO, Nat.reduceLT, and_self, bnd2_s, cal_s, e1, nI_1]
      rw [if_neg (by rw [← hch.1]; exact hne), ← e2, show woff w + (t + 1) = woff w + t + 1 by omega]
    · rw [hd, show l ++ wch w t :: (wrd w).drop (t + 1) = (l ++ [wch w t]) ++ (wrd w).drop (t + 1) by simp]
      exact S2
theorem TlS.word (h : TlS M q l) (hW : Wd M) (k : Nat) {w : Nat} (hw : w < 22) (hl : tcn (spB l ++ wrd w) < 4294967295) : ∃ M1, f_X11_tellsWord (k + 5) 89 (nI w) M = some ((), M1) ∧ Fr STq M M1 ∧ TlS M1 q (spB l ++ wrd w) := by
  have fin : ∀ {M : Mem}, Wd M → TlS M q (spB l) → ∃ M1, lp (st_X11_tellsWord (k + 5)) (17, [.ref 89, .int (nI w), .int (nI 0), .int (nI 0)], M) = some ((), M1) ∧ Fr STq M M1 ∧ TlS M1 q (spB l ++ wrd w) := by
    intro M hW hS
    rw [TlS.w17 k hw (woff w) 0 (by omega) 0 (by omega) (Nat.le_refl _) (fun c' _ h2 => by
      cases c' with
      | zero => exact Nat.le_refl _
      | succ c' => have h2 : woff c' + wlen c' + 1 ≤ 0 := h2; omega)]
    have := TlS.w42 (q := q) k hw (wlen w) 0 (by omega) M (spB l) hW hS (by simpa using hl)
    simpa using this
  by_cases hc : M.2.2.1 89 48 ≤ 0
  · obtain ⟨M1, e1, F1, S1⟩ := fin hW (h.bl0 hc)
    refine ⟨M1, ?_, F1, S1⟩
    refine (ge_X11_tellsWord_0 (k + 5) 89 _ M).trans ?_
    simp only [T_X11_tellsWord_0, W_89 hW, gd_true, fO, Nat.reduceLT, and_self, if_pos hc]
    exact e1
  · obtain ⟨M0, e0, F0, S0⟩ := h.tell hW (k + 4) 32 (Or.inr (h.bl1 hc).2) (by rw [← (h.bl1 hc).1]; exact Nat.lt_of_le_of_lt (tcn_m _ _) hl)
    rw [← (h.bl1 hc).1] at S0
    obtain ⟨M1, e1, F1, S1⟩ := fin (F0.Wd hW) S0
    refine ⟨M1, ?_, F0.trans F1, S1⟩
    refine (ge_X11_tellsWord_0 (k + 5) 89 _ M).trans ?_
    obtain ⟨n, hn⟩ : ∃ n, n = k + 4 := ⟨_, rfl⟩
    rw [show k + 5 = n + 1 by omega] at e1 ⊢
    rw [← hn] at e0
    have e0' : f_X11_tells n 89 32 M = some ((), M0) := e0
    simp only [T_X11_tellsWord_0, W_89 hW, gd_true, fO, Nat.reduceLT, and_self, if_neg hc, bnd2_s, cal_s, e0']
    exact e1
theorem tf_eq (k : Nat) (x : Int32) (M : Mem) : f_X11_tellsFormula (k + 1) 89 x M = T_X11_tellsFormula_0 (fun v M => some (v, M)) none (r_X11_tellsFormula k) (k + 1) 89 x M := rfl
theorem fsp_len : ∀ {c : Nat} {k l r : Nat → Int32}, TbI c k l r → c ≤ 20000 → ∀ i, i < c → (fsp (dT k l r i)).length = blen (dT k l r i) ∧ fsp (dT k l r i) ≠ [] := by
  intro c k l r hT hc i
  induction i using Nat.strongRecOn with
  | ind i ih =>
  intro hi
  rcases hT i hi with ⟨j, hj, e1, e2, e3⟩ | ⟨j, a, b, h1, h2, ha, hb, e1, e2, e3⟩
  · rw [dT_leaf hT (by omega) hi hj e1]
    exact ⟨by show (wrd j).length = wlN j; rw [wrd_len, wlN_is j (by omega)], wrd_ne (by omega)⟩
  · rw [dT_node hT (by omega) hi h1 h2 e1 e2 e3 ha hb, fsp_mk h1 h2, blen_mw h1 h2]
    have ia := ih a ha (by omega)
    have ib := ih b hb (by omega)
    refine ⟨?_, by simp⟩
    simp only [List.length_append, List.length_cons, wrd_len, ia.1, ib.1]
    omega
theorem spB_cons {l s : List Nat} (h : s ≠ []) : spB (l ++ s) = l ++ s ++ [32] := if_neg (by simp [h])
set_option maxHeartbeats 1000000 in
/-- A FORMULA, told -/
theorem TlS.frm : ∀ (d k f c : Nat) (M : Mem) (l : List Nat), Wd M → TabR M c → f < c → dpf (dR M f) ≤ d → TlS M q l → tcn (spB l ++ fsp (dR M f)) < 4294967295 → ∃ M1, f_X11_tellsFormula (d + 7 + k) 89 (nI f) M = some ((), M1) ∧ Fr STq M M1 ∧ TlS M1 q (spB l ++ fsp (dR M f)) := by
  intro d
  induction d using Nat.strongRecOn with
  | ind d ih =>
  intro k f c M l hW hT hf hd hS hb
  have hc := hT.2.1
  have hf2 : f < 16384 := by omega
  obtain ⟨n, hn⟩ : ∃ n, n = d + 6 + k := ⟨_, rfl⟩
  rw [show d + 7 + k = n + 1 by omega, tf_eq]
  rcases hT.cases hf with ⟨j, hj, e1, e2, e3, e4⟩ | ⟨j, a, b, h1, h2, ha, hb', e1, e2, e3, e4⟩
  · rw [e4] at hb ⊢
    obtain ⟨M1, x1, F1, S1⟩ := hS.word hW (n - 5) (w := j) (by omega) hb
    rw [show n - 5 + 5 = n by omega] at x1
    refine ⟨M1, ?_, F1, S1⟩
    have hW1 := F1.Wd hW
    have i2 : M1.2.2.1 91 f = -1 := (F1.int (by unfold STq; omega)).trans e2
    simp (disch := omega) only [T_X11_tellsFormula_0, W_89 hW, W_89 hW1, gd_true, fO, fA, ex_in, bnd_s, bnd2_s, cal_s, Nat.reduceLT, true_and, and_true, and_self, nI_z, vp_iff, up2_if, Nat.reduceEqDiff, false_and, and_false, if_false, if_true, nI_1, nI_le_, nI_lt_, nI_lt0, nI_eq_, nI_add, hf2, e1, x1, i2]
  · rw [e4] at hb hd
    rw [e4, fsp_mk h1 h2]
    have e : spB l ++ (wrd j ++ 32 :: (fsp (dR M a) ++ 32 :: fsp (dR M b))) = spB l ++ wrd j ++ [32] ++ fsp (dR M a) ++ [32] ++ fsp (dR M b) := by simp
    rw [fsp_mk h1 h2, e] at hb
    rw [dpf_mk] at hd
    have hb3 : tcn (spB l ++ wrd j ++ [32] ++ fsp (dR M a)) < 4294967295 := Nat.lt_of_le_of_lt (tcn_m _ ([32] ++ fsp (dR M b))) (by rw [← List.append_assoc]; exact hb)
    have hb1 : tcn (spB l ++ wrd j) < 4294967295 := Nat.lt_of_le_of_lt (tcn_m _ ([32] ++ fsp (dR M a))) (by rw [← List.append_assoc]; exact hb3)
    have hTI := hT.2.2.1
    obtain ⟨M1, x1, F1, S1⟩ := hS.word hW (n - 5) (w := j) (by omega) hb1
    rw [show n - 5 + 5 = n by omega] at x1
    have hW1 := F1.Wd hW
    have la := (fsp_len hTI (by omega) a (by omega))
    have lb := (fsp_len hTI (by omega) b (by omega))
    obtain ⟨T1, d1⟩ := tabR_mv hT F1 (by unfold STq; omega) (fun a k q => by unfold STq at q; omega)
    obtain ⟨M2, x2, F2, S2⟩ := ih (d - 1) (by omega) k a c M1 _ hW1 T1 (by omega) (by rw [d1]; omega) S1 (by rw [d1, spB_cons (wrd_ne (by omega))]; exact hb3)
    rw [show d - 1 + 7 + k = n by omega] at x2
    rw [d1, spB_cons (wrd_ne (by omega))] at S2
    have F12 := F1.trans F2
    have hW2 := F12.Wd hW
    obtain ⟨T2, d2⟩ := tabR_mv hT F12 (by unfold STq; omega) (fun a k q => by unfold STq at q; omega)
    obtain ⟨M3, x3, F3, S3⟩ := ih (d - 1) (by omega) k b c M2 _ hW2 T2 (by omega) (by rw [d2]; omega) S2 (by rw [d2, spB_cons (show fsp (dR M a) ≠ [] from la.2)]; exact hb)
    rw [show d - 1 + 7 + k = n by omega] at x3
    rw [d2, spB_cons (show fsp (dR M a) ≠ [] from la.2)] at S3
    refine ⟨M3, ?_, F12.trans F3, ?_⟩
    · have i2 : M1.2.2.1 91 f = nI a := (F1.int (by unfold STq; omega)).trans e2
      have i3 : M2.2.2.1 92 f = nI b := (F12.int (by unfold STq; omega)).trans e3
      have hne : ¬ nI a = (-1 : Int32) := of_eq_false (nI_ne_m1 (by omega))
      have x2' : r_X11_tellsFormula n 0 [.ref 89, .int (nI a)] M1 = some ((), M2) := x2
      have x3' : r_X11_tellsFormula n 0 [.ref 89, .int (nI b)] M2 = some ((), M3) := x3
      simp (disch := omega) only [T_X11_tellsFormula_0, W_89 hW, W_89 hW1, W_89 hW2, gd_true, fO, fA, ex_in, bnd_s, bnd2_s, cal_s, Nat.reduceLT, true_and, and_true, and_self, nI_z, vp_iff, up2_if, Nat.reduceEqDiff, false_and, and_false, if_false, if_true, nI_1, nI_le_, nI_lt_, nI_lt0, nI_eq_, nI_add, hf2, e1, x1, i2, i3, if_neg hne, x2', x3']
    · rw [e]
      exact S3
end SF4
