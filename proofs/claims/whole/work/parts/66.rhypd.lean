/-! HYPOTHESES, the call, in the reference, its end -/
section RHD
variable {M : Mem} {b : Nat → Nat}
theorem cp71 (hW : Wd M) (k : Nat) : ∀ z j, j + z = 24 → ∀ M1, Fr (fun a _ => a = 96) M M1 → (∀ u, u < j → M1.2.2.1 96 u = M.2.2.1 99 u) → ∃ M2, lp (st_X11_hypotheses k) (71, [.ref 89, .int (nI j)], M1) = lp (st_X11_hypotheses k) (97, [.ref 89, .int (nI 0)], M2) ∧ Fr (fun a _ => a = 96) M M2 ∧ ∀ u, u < 24 → M2.2.2.1 96 u = M.2.2.1 99 u := by
  intro z
  induction z with
  | zero =>
    intro j hj M1 hF hu
    have e : j = 24 := by omega
    subst e
    refine ⟨M1, ?_, hF, hu⟩
    refine (ge_X11_hypotheses_71 k 89 _ M1).trans ?_
    simp only [T_X11_hypotheses_71, show ((24 : Int32) ≤ nI 24) = True from eq_true (by decide), if_true]
    rfl
  | succ z ih =>
    intro j hj M1 hF hu
    have hW1 := hF.Wd hW
    have h99 : M1.2.2.1 99 j = M.2.2.1 99 j := hF.int (by omega)
    obtain ⟨M2, e2, r⟩ := ih (j + 1) (by omega) (wI M1 96 j (M.2.2.1 99 j)) (hF.wI rfl _) (fun u h => by
      by_cases e : u = j
      · subst e
        simp [up2_if]
      · simp only [up2_if, true_and, e, if_false]
        exact hu u (by omega))
    refine ⟨M2, ?_, r⟩
    rw [← e2]
    have v : vp_in (nI j) 24 := vp_nI (by omega) (by omega)
    refine (ge_X11_hypotheses_71 k 89 _ M1).trans ?_
    simp (disch := omega) only [T_X11_hypotheses_71, show (24 : Int32) = nI 24 from rfl, nI_le_, W_89 hW1, gd_true, fO, fA, ex_in, Nat.reduceLT, true_and, and_self, bnd_s, v, nI_z, h99, nI_1]
    rw [if_neg (by omega)]
theorem cp97 (hW : Wd M) (k : Nat) : ∀ z j, j + z = 6 → ∀ M1, Fr (fun a _ => a = 97 ∨ a = 98) M M1 → (∀ u, u < j → M1.2.2.1 97 u = M.2.2.1 100 u ∧ M1.2.2.1 98 u = M.2.2.1 101 u) → ∃ M2, lp (st_X11_hypotheses k) (97, [.ref 89, .int (nI j)], M1) = lp (st_X11_hypotheses k) (135, [.ref 89, .int (nI 0)], M2) ∧ Fr (fun a _ => a = 97 ∨ a = 98) M M2 ∧ ∀ u, u < 6 → M2.2.2.1 97 u = M.2.2.1 100 u ∧ M2.2.2.1 98 u = M.2.2.1 101 u := by
  intro z
  induction z with
  | zero =>
    intro j hj M1 hF hu
    have e : j = 6 := by omega
    subst e
    refine ⟨M1, ?_, hF, hu⟩
    refine (ge_X11_hypotheses_97 k 89 _ M1).trans ?_
    simp only [T_X11_hypotheses_97, show ((6 : Int32) ≤ nI 6) = True from eq_true (by decide), if_true]
    rfl
  | succ z ih =>
    intro j hj M1 hF hu
    have hW1 := hF.Wd hW
    have h100 : M1.2.2.1 100 j = M.2.2.1 100 j := hF.int (by omega)
    have h101 : M1.2.2.1 101 j = M.2.2.1 101 j := hF.int (by omega)
    obtain ⟨M2, e2, r⟩ := ih (j + 1) (by omega) (wI (wI M1 97 j (M.2.2.1 100 j)) 98 j (M.2.2.1 101 j)) ((hF.wI (Or.inl rfl) _).wI (Or.inr rfl) _) (fun u h => by
      by_cases e : u = j
      · subst e
        simp [up2_if]
      · simp only [up2_if, Nat.reduceEqDiff, false_and, true_and, e, if_false]
        exact hu u (by omega))
    refine ⟨M2, ?_, r⟩
    rw [← e2]
    have v : vp_in (nI j) 6 := vp_nI (by omega) (by omega)
    refine (ge_X11_hypotheses_97 k 89 _ M1).trans ?_
    simp (disch := omega) only [T_X11_hypotheses_97, show (6 : Int32) = nI 6 from rfl, nI_le_, W_89 hW1, gd_true, fO, fA, ex_in, Nat.reduceLT, true_and, and_self, bnd_s, v, nI_z, up2_if, Nat.reduceEqDiff, false_and, if_false, h100, h101, nI_1]
    rw [if_neg (by omega)]
theorem cp135 (hW : Wd M) (k : Nat) : ∀ z j, j + z = 4 → ∀ M1, Fr (fun a _ => a = 104) M M1 → (∀ u, u < j → M1.2.2.1 104 u = 0) → ∃ M2, lp (st_X11_hypotheses k) (135, [.ref 89, .int (nI j)], M1) = some (M.2.2.1 89 15, M2) ∧ Fr (fun a _ => a = 104) M M2 ∧ ∀ u, u < 4 → M2.2.2.1 104 u = 0 := by
  intro z
  induction z with
  | zero =>
    intro j hj M1 hF hu
    have hW1 := hF.Wd hW
    have e : j = 4 := by omega
    subst e
    refine ⟨M1, ?_, hF, hu⟩
    have h15 : M1.2.2.1 89 15 = M.2.2.1 89 15 := hF.int (by omega)
    refine (ge_X11_hypotheses_135 k 89 _ M1).trans ?_
    simp only [T_X11_hypotheses_135, show ((4 : Int32) ≤ nI 4) = True from eq_true (by decide), if_true, W_89 hW1, gd_true, fO, Nat.reduceLT, and_self, h15]
  | succ z ih =>
    intro j hj M1 hF hu
    have hW1 := hF.Wd hW
    obtain ⟨M2, e2, r⟩ := ih (j + 1) (by omega) (wI M1 104 j 0) (hF.wI rfl _) (fun u h => by
      by_cases e : u = j
      · subst e
        simp [up2_if]
      · simp only [up2_if, true_and, e, if_false]
        exact hu u (by omega))
    refine ⟨M2, ?_, r⟩
    rw [← e2]
    have v : vp_in (nI j) 4 := vp_nI (by omega) (by omega)
    refine (ge_X11_hypotheses_135 k 89 _ M1).trans ?_
    simp (disch := omega) only [T_X11_hypotheses_135, show (4 : Int32) = nI 4 from rfl, nI_le_, W_89 hW1, gd_true, fO, fA, ex_in, Nat.reduceLT, true_and, and_self, bnd_s, v, nI_z, nI_1]
    rw [if_neg (by omega)]
def SRk (a k : Nat) : Prop := SRi a k ∨ (a = 89 ∧ (k = 27 ∨ k = 28))
def SRj (a k : Nat) : Prop := SRk a k ∨ a = 96 ∨ a = 97 ∨ a = 98 ∨ a = 104
set_option maxHeartbeats 8000000 in
theorem rx_hypotheses (hW : Wd M) {L : Nat} (hTp : TpR M b L) (k : Nat) {M0 : Mem} {c : Nat} (ht : f_X11_tidies (k + 45) 89 (wI M 89 0 0) = some ((), M0)) (hF0 : Fr STd (wI M 89 0 0) M0) (hT : TabR M0 c) (hc : c + 600 ≤ 16384) (x : Int32) :
    ((∀ n, n ≤ L → x ≠ nI n) → f_X11_hypotheses (k + 47) 89 x M = some (-3, wI M 89 0 0)) ∧ ∀ n, n ≤ L → x = nI n →
    ((∀ e, rdH b n 7 0 [] = .inl e → ∃ c1 M1, f_X11_hypotheses (k + 47) 89 x M = some (-30 - nI e.1, M1) ∧ Fr SRk M0 M1 ∧ M1.2.2.1 89 27 = nI 0 ∧ M1.2.2.1 89 15 = M0.2.2.1 89 15 ∧ M1.2.2.1 89 32 = nI e.1 ∧ M1.2.2.1 89 33 = nI e.2 ∧ c ≤ c1 ∧ c1 ≤ c + 434 ∧ TabR M1 c1 ∧ ∀ i, i < c → dR M1 i = dR M0 i) ∧
     (∀ acc, rdH b n 7 0 [] = .inr acc → ∃ c1 M1, f_X11_hypotheses (k + 47) 89 x M = some (nI acc.length, M1) ∧ Fr SRj M0 M1 ∧ M1.2.2.1 89 27 = nI 0 ∧ M1.2.2.1 89 32 = 0 ∧ M1.2.2.1 89 33 = -1 ∧ c ≤ c1 ∧ c1 ≤ c + 434 ∧ TabR M1 c1 ∧ (∀ i, i < c → dR M1 i = dR M0 i) ∧ HyR M1 15 96 97 98 c1 (hyL acc) ∧ ∀ s, s < 4 → M1.2.2.1 104 s = 0)) := by
  have h6 := hTp.2.1
  have hWt : Wd (wI M 89 0 0) := hW.wI _ _ _
  have hW0 := hF0.Wd hWt
  obtain ⟨iA, iB⟩ := rx_inT (M := wI M 89 0 0) (k + 46) h6 x
  refine ⟨fun h => ?_, fun n hn hx => ?_⟩
  · have e := iB h
    refine (ge_X11_hypotheses_0 (k + 47) 89 x M).trans ?_
    simp only [T_X11_hypotheses_0, W_89 hW, gd_true, fO, Nat.reduceLT, and_self, cal_s, bnd2_s, if_true, up2_if, Nat.reduceEqDiff, and_false, if_false, hTp.1, e]
  · have e := iA n hn hx
    have e1 := rx_begins hWt (k + 45) n ht hW0
    rw [← hx] at e1
    generalize hM3 : wI (wI (wI (wI (wI M0 89 27 0) 89 28 x) 89 29 0) 89 30 0) 89 31 (-1) = M3 at e1
    have F3 : Fr SRk M0 M3 := by
      rw [← hM3]
      exact ((((Fr.refl.wI (by simp [SRk]) _).wI (by simp [SRk]) _).wI (by simp [SRk, SRi, SRh, SRR]) _).wI (by simp [SRk, SRi, SRh, SRR]) _).wI (by simp [SRk, SRi, SRh, SRR]) _
    have hW3 := F3.Wd hW0
    have F4 : Fr SRk M0 (wI M3 89 35 0) := F3.wI (by simp [SRk, SRi, SRh]) _
    have hW4 := F4.Wd hW0
    have hX4 : TxR (wI M3 89 35 0) b n := by
      rw [← hM3]
      refine ⟨hx, by omega, fun i hi => ⟨(hTp.2.2 i (by omega)).1, ?_⟩⟩
      show M0.2.2.1 109 i = _
      rw [hF0.int (by simp [STd])]
      exact (hTp.2.2 i (by omega)).2
    have hT4 : TabR (wI M3 89 35 0) c := by rw [← hM3]; exact hT
    have hd4 : ∀ i, dR (wI M3 89 35 0) i = dR M0 i := fun i => by rw [← hM3]; rfl
    have h29 : (wI M3 89 35 0).2.2.1 89 29 = nI 0 := by rw [← hM3]; rfl
    have h30 : (wI M3 89 35 0).2.2.1 89 30 = 0 := by rw [← hM3]; rfl
    have h31 : (wI M3 89 35 0).2.2.1 89 31 = -1 := by rw [← hM3]; rfl
    have h27' : (wI M3 89 35 0).2.2.1 89 27 = nI 0 := by rw [← hM3]; rfl
    have h15' : (wI M3 89 35 0).2.2.1 89 15 = M0.2.2.1 89 15 := by rw [← hM3]; rfl
    have hr := rhyp_loop (b := b) (n := n) k 6 0 c [] (wI M3 89 35 0) rfl (Nat.zero_le _) hW4 hX4 h29 h30 hT4 ⟨rfl, by simp [hyL], fun j hj => by simp [hyL] at hj⟩ (by omega)
    have head : f_X11_hypotheses (k + 47) 89 x M = lp (st_X11_hypotheses (k + 47)) (32, [.ref 89], wI M3 89 35 0) := by
      refine (ge_X11_hypotheses_0 (k + 47) 89 x M).trans ?_
      simp only [T_X11_hypotheses_0, W_89 hW, W_89 hW3, gd_true, fO, Nat.reduceLT, and_self, cal_s, bnd2_s, up2_if, Nat.reduceEqDiff, and_false, hTp.1, e, show ((1 : Int32) = 0) = False from eq_false (by decide), if_false, e1]
    refine ⟨fun er he => ?_, fun acc he => ?_⟩
    · rw [he] at hr
      obtain ⟨c1, M1, x1, x2, x3, x4, x5, x6, x7, x8, x9⟩ := hr
      exact ⟨c1, M1, head.trans x1, F4.trans (x2.mono (fun a k h => Or.inl h)), (x2.int (by simp [SRi, SRh, SRR])).trans h27', x5.trans h15', x3, x4, x6, by omega, x8, fun i hi => (x9 i hi).trans (hd4 i)⟩
    · rw [he] at hr
      obtain ⟨c1, M1, x1, x2, x3, x4, x5, x6, x7, x8, x9, x10⟩ := hr
      have hW1 := x2.Wd hW4
      obtain ⟨M5, y1, y2, y3⟩ := cp71 hW1 (k + 47) 24 0 (by omega) M1 Fr.refl (fun u hu => by omega)
      have hW5 := y2.Wd hW1
      obtain ⟨M6, z1, z2, z3⟩ := cp97 hW5 (k + 47) 6 0 (by omega) M5 Fr.refl (fun u hu => by omega)
      have hW6 := z2.Wd hW5
      obtain ⟨M7, w1, w2, w3⟩ := cp135 hW6 (k + 47) 4 0 (by omega) M6 Fr.refl (fun u hu => by omega)
      have F17 : Fr (fun a _ => a = 96 ∨ a = 97 ∨ a = 98 ∨ a = 104) M1 M7 := ((y2.mono (fun a _ h => Or.inl h)).trans (z2.mono (fun a _ h => by omega))).trans (w2.mono (fun a _ h => by omega))
      have e15 : M6.2.2.1 89 15 = nI acc.length := by rw [z2.int (by omega), y2.int (by omega)]; exact x5
      obtain ⟨t1, t2⟩ := x8.fr F17 (by omega) (by omega) (by omega) (by omega) (by omega) (by omega)
      refine ⟨c1, M7, ?_, ((F4.trans (x2.mono (fun a k h => Or.inl h))).mono (T := SRj) (fun a k h => Or.inl h)).trans (F17.mono (fun a k h => Or.inr h)), (F17.int (by omega)).trans ((x2.int (by simp [SRi, SRh, SRR])).trans h27'), (F17.int (by omega)).trans x3, (F17.int (by omega)).trans (x4.trans h31), x6, by omega, t1, fun i hi => (t2 i).trans ((x9 i hi).trans (hd4 i)), ?_, w3⟩
      · rw [head, x1, y1, z1, w1, e15]
      · refine ⟨by rw [F17.int (by omega), x5, hyL_len], x10.2.1, fun j hj => ?_⟩
        obtain ⟨⟨f, d, g1, g2, g3, g4⟩, v, q1, q2, q3⟩ := x10.2.2 j hj
        have hj6 : j < 6 := by have := x10.2.1; omega
        have hd4' := g1.2.1
        refine ⟨⟨f, d, g1, g2, ?_, fun i hi => ?_⟩, v, q1, ?_, ?_⟩
        · rw [w2.int (by omega), (z3 j hj6).1, y2.int (by omega)]
          exact g3
        · rw [w2.int (by omega), z2.int (by omega), y3 (4 * j + i) (by omega)]
          exact g4 i hi
        · rw [w2.int (by omega), (z3 j hj6).2, y2.int (by omega)]
          exact q2
        · rw [t2 v]
          exact q3
end RHD
