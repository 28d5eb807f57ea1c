/-! PROOF in the reference: from the call to the term read -/
section RPR
variable {M : Mem} {b : Nat → Nat} {c : Nat} {H : List (Nat × Fm)}
def bgP (M0 : Mem) (x : Int32) : Mem := wI (wI (wI (wI (wI (wI M0 89 27 0) 89 28 x) 89 29 0) 89 30 0) 89 31 (-1)) 89 39 0
theorem bgP_Wd {M0 : Mem} (h : Wd M0) (x : Int32) : Wd (bgP M0 x) := (((((h.wI _ _ _).wI _ _ _).wI _ _ _).wI _ _ _).wI _ _ _).wI _ _ _
theorem bgP_Fr {M0 : Mem} (x : Int32) : Fr (fun a k => a = 89 ∧ (k = 27 ∨ k = 28 ∨ k = 29 ∨ k = 30 ∨ k = 31 ∨ k = 39)) M0 (bgP M0 x) := (((((Fr.refl.wI (by omega) _).wI (by omega) _).wI (by omega) _).wI (by omega) _).wI (by omega) _).wI (by omega) _
theorem rx_prS {M0 : Mem} (hW0 : Wd M0) {n L : Nat} (hX : L ≤ 600 ∧ ∀ i, i < L → b i < 256 ∧ M0.2.2.1 109 i = sb (b i)) (hn : n ≤ L) (hT : TabR M0 c) (hH : HyR M0 15 96 97 98 c H) (h24 : M0.2.2.1 89 24 = 0) : RrS (bgP M0 (nI n)) c b n H [] [] [] 0 := by
  refine ⟨bgP_Wd hW0 _, ⟨rfl, by omega, fun i hi => hX.2 i (by omega)⟩, hT, hH, ⟨h24, ⟨?_, fun i nd q => by simp at q⟩, fun nd q => by simp at q⟩, ⟨fun i x q => by simp at q, rfl⟩, ⟨rfl, by simp, fun i q => by simp at q⟩, ⟨rfl, Nat.zero_le _⟩, rfl, rfl⟩
  intro nd q
  simp at q
theorem j86 (hW : Wd M) (k : Nat) (x1 : Int32) (h30 : ¬ M.2.2.1 89 30 = 0) : lp (st_X11_proof (k + 1)) (86, [.ref 89, .int x1], M) = some (-30 - M.2.2.1 89 30, wI (wI M 89 32 (M.2.2.1 89 30)) 89 33 (M.2.2.1 89 31)) := by
  refine (ge_X11_proof_86 (k + 1) 89 x1 M).trans ?_
  have e := rx_settles hW k
  have hW1 : Wd (wI (wI M 89 32 (M.2.2.1 89 30)) 89 33 (M.2.2.1 89 31)) := (hW.wI _ _ _).wI _ _ _
  simp only [T_X11_proof_86, W_89 hW, W_89 hW1, gd_true, fO, Nat.reduceLT, and_self, cal_s, bnd2_s, e, h30, if_false]
  rfl
set_option maxHeartbeats 1000000 in
theorem rx_prA (hW : Wd M) {L : Nat} (hTp : TpR M b L) (k : Nat) {M0 : Mem} (ht : f_X11_tidies (k + 181) 89 (wI (wI M 89 0 0) 89 24 0) = some ((), M0)) (hF0 : Fr STd (wI (wI M 89 0 0) 89 24 0) M0) (hT : TabR M0 c) (hH : HyR M0 15 96 97 98 c H) (hc0 : 0 < c) (hc : c + 600 ≤ 10000) (x1 x2 : Int32) :
    ((∀ s, s < 4 → x1 ≠ nI s) → f_X11_proof (k + 183) 89 x1 x2 M = some (-2, wI M 89 0 0)) ∧ ∀ s, s < 4 → x1 = nI s →
    ((∀ n, n ≤ L → x2 ≠ nI n) → f_X11_proof (k + 183) 89 x1 x2 M = some (-3, wI M 89 0 0)) ∧ ∀ n, n ≤ L → x2 = nI n →
    (∀ e, rdX b n H = .inl e → ∃ M1, f_X11_proof (k + 183) 89 x1 x2 M = some (-30 - nI e.1, wI (wI M1 89 32 (nI e.1)) 89 33 (nI e.2)) ∧ RyF (bgP M0 (nI n)) c n 0 M1 e) ∧
    (∀ r, rdX b n H = .inr r → ∃ M1 c1, RyG (bgP M0 (nI n)) c n 0 M1 c1 n ∧ RrS M1 c1 b n H [] (rws r.1) r.2 n ∧ ∀ v M2, f_X11_proves (k + 182) 89 M1 = some (v, M2) → Wd M2 → f_X11_proof (k + 183) 89 x1 x2 M = lp (st_X11_proof (k + 183)) (86, [.ref 89, .int x1], M2)) := by
  have h6 := hTp.2.1
  have hWt : Wd (wI M 89 0 0) := hW.wI _ _ _
  have hWu : Wd (wI (wI M 89 0 0) 89 24 0) := hWt.wI _ _ _
  have hW0 := hF0.Wd hWu
  obtain ⟨m, hm⟩ : ∃ m, m = k + 182 := ⟨_, rfl⟩
  rw [show k + 183 = m + 1 by omega]
  obtain ⟨sA, sB⟩ := rx_isSlot (M := wI M 89 0 0) (k + 181) x1
  rw [show k + 181 + 1 = m by omega] at sA sB
  obtain ⟨iA, iB⟩ := rx_inT (M := wI M 89 0 0) m h6 x2
  have h10 : ((1 : Int32) = 0) = False := eq_false (by decide)
  refine ⟨fun h => ?_, fun s hs hx1 => ⟨fun h => ?_, fun n hn hx2 => ?_⟩⟩
  · have e := sB h
    refine (ge_X11_proof_0 (m + 1) 89 x1 x2 M).trans ?_
    simp only [T_X11_proof_0, W_89 hW, gd_true, fO, Nat.reduceLT, and_self, cal_s, bnd2_s, e, if_true]
  · have e := sA s hs hx1
    have e2 := iB h
    refine (ge_X11_proof_0 (m + 1) 89 x1 x2 M).trans ?_
    simp only [T_X11_proof_0, W_89 hW, W_89 hWt, gd_true, fO, Nat.reduceLT, and_self, cal_s, bnd2_s, e, h10, if_false, up2_if, Nat.reduceEqDiff, and_false, hTp.1, e2, if_true]
  · have e := sA s hs hx1
    have e2 := iA n hn hx2
    have e3 := rx_begins hWu (k + 181) n ht hW0
    rw [← hx2, show k + 181 + 1 = m by omega] at e3
    have hS : RrS (bgP M0 (nI n)) c b n H [] [] [] 0 := rx_prS hW0 ⟨h6, fun i hi => ⟨(hTp.2.2 i hi).1, (hF0.int (by simp [STd])).trans (hTp.2.2 i hi).2⟩⟩ hn hT hH (hF0.int (by simp [STd]))
    obtain ⟨rA, rB⟩ := rx_rdX hH.2.1 hS hc0 (by omega) (k + 1)
    rw [show k + 1 + 181 = m by omega] at rA rB
    have hbg : wI (wI (wI (wI (wI (wI M0 89 27 0) 89 28 x2) 89 29 0) 89 30 0) 89 31 (-1)) 89 39 0 = bgP M0 (nI n) := by rw [← hx2]; rfl
    have hW3 := hS.1
    have head : ∀ (X : Option (Int32 × Mem)), T_X11_proof_0 (fun c l M => lp (st_X11_proof (m + 1)) (c, l, M)) (fun v M => some (v, M)) none (m + 1) 89 x1 x2 M = X → f_X11_proof (m + 1) 89 x1 x2 M = X := fun X q => (ge_X11_proof_0 (m + 1) 89 x1 x2 M).trans q
    refine ⟨fun er he => ?_, fun r he => ?_⟩
    · obtain ⟨M1, f1, q⟩ := rA er he
      have hW1 := f1.wd hW3
      have hne : ¬ M1.2.2.1 89 30 = 0 := f1.wr
      refine ⟨M1, ?_, f1⟩
      rw [← f1.2.1, ← f1.2.2.1, ← j86 hW1 m x1 hne]
      rcases q with q | ⟨Ma, Mb, q1, q2, q3, q4, q5, q6⟩
      · apply head
        simp only [T_X11_proof_0, W_89 hW, W_89 hWt, W_89 hW0, W_89 hW1, gd_true, fO, Nat.reduceLT, and_self, cal_s, bnd2_s, e, h10, if_false, up2_if, Nat.reduceEqDiff, and_false, hTp.1, e2, e3, hbg, q, hne]
      · apply head
        simp only [T_X11_proof_0, W_89 hW, W_89 hWt, W_89 hW0, W_89 q2, W_89 q5, W_89 hW1, gd_true, fO, Nat.reduceLT, and_self, cal_s, bnd2_s, e, h10, if_false, up2_if, Nat.reduceEqDiff, and_false, hTp.1, e2, e3, hbg, q1, q3, if_true, q4, q6, hne]
    · obtain ⟨Ma, M1, c1, q1, q2, q3, q4, q5, q6⟩ := rB r he
      refine ⟨M1, c1, q5, q6, fun v M2 ep hW2 => ?_⟩
      have hW1 := q6.1
      have g30 := q6.2.2.2.2.2.2.2.2.1
      rw [← hm] at ep
      apply head
      simp only [T_X11_proof_0, W_89 hW, W_89 hWt, W_89 hW0, W_89 q2, W_89 hW1, gd_true, fO, Nat.reduceLT, and_self, cal_s, bnd2_s, e, h10, if_false, up2_if, Nat.reduceEqDiff, and_false, hTp.1, e2, e3, hbg, q1, q3, if_true, q4, g30, ep]
end RPR
