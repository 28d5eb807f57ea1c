/-! READING A TERM in the class: the call -/
noncomputable def rdX (b : Nat → Nat) (n : Nat) (H : List (Nat × Fm)) : (Nat × Nat) ⊕ (Tm × List Nat) := sbg (rdT b n H 121 0 [] 0) (fun r => if tq b n r.2.2 = n then .inr (r.1, r.2.1) else .inl (1, tq b n r.2.2))
def SRx (a k : Nat) : Prop := SRt a k ∨ (a = 14 ∧ k = 10)
section RTX
variable {b : Nat → Nat} {n : Nat} {H : List (Nat × Fm)}
theorem rdX_ok (hH : H.length ≤ 6) {r : Tm × List Nat} (h : rdX b n H = .inr r) : isT r.1 ∧ sz r.1 = r.2.length ∧ scp r.1 0 ∧ shp H.length r.1 ∧ r.2.length ≤ 120 := by
  obtain ⟨s, e, h⟩ := sbg_in h
  split at h
  · cases h
    obtain ⟨h1, h2, h3, h4, h5, -, -⟩ := rdT_ok hH 121 (Nat.zero_le _) e
    exact ⟨h1, h2, h3, h4, by show s.2.1.length ≤ 120; omega⟩
  · cases h
set_option maxHeartbeats 1000000 in
theorem c_readTerm {M : Mem} {c : Nat} (hW : Wd M) (hb : ∀ i, i < n → b i < 256 ∧ M.2.2.1 1 i = nI (b i)) (hn : n ≤ 600) (hPw : PwC M) (hT : TabC M c) (hH : HyC M 10 c H) (hc : 2 * c + n ≤ 10300) (k : Nat) : (∀ e, rdX b n H = .inl e → ∃ M1 c1, f_X6_readTerm (k + 5) 14 (nI n) 10 37 M = some (0, M1) ∧ Fr SRx M M1 ∧ FlC M1 e ∧ TabC M1 c1 ∧ c ≤ c1 ∧ 2 * c1 ≤ 2 * c + n ∧ ∀ i, i < c → dC M1 i = dC M i) ∧ (∀ r, rdX b n H = .inr r → ∃ M1 c1, f_X6_readTerm (k + 5) 14 (nI n) 10 37 M = some (1, M1) ∧ Fr SRx M M1 ∧ M1.2.2.1 14 17 = 0 ∧ M1.2.2.1 14 18 = -1 ∧ RowC M1 37 c1 (rws r.1) ∧ PcC M1 r.2 ∧ TabC M1 c1 ∧ HyC M1 10 c1 H ∧ c ≤ c1 ∧ 2 * c1 + 2 * sz r.1 ≤ 2 * c + n + 1 ∧ ∀ i, i < c → dC M1 i = dC M i) := by
  have h6 := hH.2.1
  have hO := fO_14 hW
  obtain ⟨m, hm⟩ : ∃ m, m = k + 4 := ⟨_, rfl⟩
  have e1 := c_begin hW (k + 3) hn
  rw [show k + 3 + 1 = m by omega] at e1
  obtain ⟨M1, hM1⟩ : ∃ M1, M1 = wI (wI (wI (wI M 14 10 (nI n)) 14 11 0) 14 17 0) 14 18 (-1) := ⟨_, rfl⟩
  rw [← hM1] at e1
  have F1 : Fr (fun a k => a = 14 ∧ (k = 10 ∨ k = 11 ∨ k = 17 ∨ k = 18)) M M1 := by
    rw [hM1]
    exact (((Fr.refl.wI ⟨rfl, by omega⟩ _).wI ⟨rfl, by omega⟩ _).wI ⟨rfl, by omega⟩ _).wI ⟨rfl, by omega⟩ _
  have hW1 := F1.Wd hW
  obtain ⟨M2, e2, F2, G2⟩ := c_clear (c := c) hW1 (tr := 37) (by unfold TOb; omega) m
  have hW2 := F2.Wd hW1
  obtain ⟨M3, hM3⟩ : ∃ M3, M3 = wI (wI M2 14 6 0) 14 8 0 := ⟨_, rfl⟩
  have F3 : Fr (fun a k => a = 14 ∧ (k = 6 ∨ k = 8)) M2 M3 := by
    rw [hM3]
    exact (Fr.refl.wI ⟨rfl, by omega⟩ _).wI ⟨rfl, by omega⟩ _
  have hW3 := F3.Wd hW2
  have P3 : PlC M3 [] := ⟨by rw [hM3]; simp [up2_if]; rfl, by simp, fun i x q => by simp at q⟩
  obtain ⟨M4, e4, F4, P4⟩ := c_push hW3 P3 (by simp) m 1
  have hW4 := F4.Wd hW3
  have m1 : ∀ a k, (a = 14 ∧ (k = 10 ∨ k = 11 ∨ k = 17 ∨ k = 18)) → SRx a k := fun a k q => by unfold SRx SRt; omega
  have m3 : ∀ a k, (a = 14 ∧ (k = 6 ∨ k = 8)) → SRx a k := fun a k q => by unfold SRx SRt; omega
  have m4 : ∀ a k, SPl a k → SRx a k := fun a k q => by unfold SPl at q; unfold SRx SRt; omega
  have F14 : Fr SRx M M4 := (((F1.mono m1).trans (F2.mono (fun a k q => Or.inl (Or.inr (Or.inr (Or.inr q)))))).trans (F3.mono m3)).trans (F4.mono m4)
  have F14' : Fr (fun a k => a = 14 ∨ a = 21 ∨ (37 ≤ a ∧ a ≤ 39)) M M4 := (((F1.mono (fun a k q => by omega)).trans (F2.mono (fun a k q => by unfold SO at q; omega))).trans (F3.mono (fun a k q => by omega))).trans (F4.mono (fun a k q => by unfold SPl at q; omega))
  obtain ⟨T4, d4⟩ := tab_mv hT F14' (fun a k q => by omega)
  have hR4 : RowC M4 37 c [] ∧ M4.2.2.1 37 3 = 0 := by
    rcases G2 with ⟨g1, g2⟩ | ⟨-, -, g⟩
    · have F24 : Fr (fun a k => a = 14 ∨ a = 21) M2 M4 := (F3.mono (fun a k q => by omega)).trans (F4.mono (fun a k q => by unfold SPl at q; omega))
      refine ⟨⟨(F24.int (by omega)).trans g2.1, by simp, g2.2.2.1, fun i nd q => by simp at q⟩, (F24.int (by omega)).trans g1⟩
    · simp at g
  have hS4 : RtS M4 c b n H [] [] [] ([] ++ [1]) 0 := by
    have i14 : ∀ j, j ≠ 6 → j ≠ 8 → M4.2.2.1 14 j = M1.2.2.1 14 j := fun j h1 h2 => by
      rw [F4.int (by unfold SPl; omega), F3.int (by omega), F2.int (by unfold SO; omega)]
    refine ⟨hW4, ⟨by rw [i14 10 (by omega) (by omega), hM1]; simp [up2_if], hn, fun w hw => (F14'.lng (by omega)).trans (hPw w hw), fun i hi => ⟨(hb i hi).1, (F14'.int (by omega)).trans (hb i hi).2⟩⟩, T4, hH.up F14' (fun a k q => by omega) (fun i _ => d4 i) (Nat.le_refl _), hR4, ⟨fun i x q => by simp at q, rfl⟩, ⟨?_, by simp, fun i hi => by simp at hi⟩, P4, ⟨by rw [i14 11 (by omega) (by omega), hM1]; simp [up2_if]; rfl, Nat.zero_le _⟩, by rw [i14 17 (by omega) (by omega), hM1]; simp [up2_if], by rw [i14 18 (by omega) (by omega), hM1]; simp [up2_if]⟩
    rw [F4.int (by unfold SPl; omega), hM3]
    simp [up2_if]
    rfl
  have e0 : f_X6_readTerm (k + 5) 14 (nI n) 10 37 M = lpT k 0 M4 := by
    have hO2 : fO M1 37 9 := ⟨by rw [hW1.1]; omega, s_37 hW1⟩
    have hO3 := fO_14 hW2
    have e4' : f_X6_push m 14 1 (wI (wI M2 14 6 0) 14 8 0) = some ((), M4) := by
      rw [← hM3]
      exact e4
    unfold lpT
    rw [show k + 5 = m + 1 by omega]
    refine (ge_X6_readTerm_0 (m + 1) 14 (nI n) 10 37 M).trans ?_
    unfold T_X6_readTerm_0
    simp only [↓gd_pos hO, ↓gd_pos hO2, ↓gd_pos hO3, ↓bnd2_of (show cal (m + 1) (fun zz => f_X6_begin zz 14 (nI n) M) = _ from e1), ↓bnd2_of (show cal (m + 1) (fun zz => f_X9_clear zz 37 M1) = _ from e2), ↓bnd2_of (show cal (m + 1) (fun zz => f_X6_push zz 14 1 (wI (wI M2 14 6 0) 14 8 0)) = _ from e4')]
    rfl
  have o := rt_main h6 k 121 (P := []) (i := 0) hS4 (fun q => absurd q (by omega)) (by simp) (by simp) (by omega) (by simp)
  rw [show ([] : List (Nat × Tm)).length = 0 from rfl] at o
  have fin : ∀ {x : Int32} {M5 M6 : Mem} {i1 : Nat}, (x = 0 ∨ x = 1) → Wd M5 → PlC M5 [] → f_X6_readEnd m 14 M5 = some (x, M6) → lpT k i1 M5 = some (x, M6) := by
    intro x M5 M6 i1 hx hW5 hP5 e
    unfold lpT
    rw [show k + 5 = m + 1 by omega]
    refine (ge_X6_readTerm_27 (m + 1) 14 10 37 (nI i1) M5).trans ?_
    have hO5 := fO_14 hW5
    have ea : aLen M5 21 = some 854 := by simp [aLen, W_14 hW5]
    have h0 : M5.2.2.1 14 6 = 0 := hP5.1
    unfold T_X6_readTerm_27
    rcases hx with rfl | rfl
    · simp only [↓reduceIte, ↓gd_pos hO5, ↓bnd_of (r_14_5 hW5), ↓bnd_of ea, ↓bnd2_of (show cal (m + 1) (fun zz => f_X6_readEnd zz 14 M5) = _ from e), nar_b0, gd_true, h0, show ((0 : Int32) ≤ 0) = True from eq_true (by decide), ite_self]
    · simp only [↓reduceIte, ↓gd_pos hO5, ↓bnd_of (r_14_5 hW5), ↓bnd_of ea, ↓bnd2_of (show cal (m + 1) (fun zz => f_X6_readEnd zz 14 M5) = _ from e), nar_b1, gd_true, h0, show ((0 : Int32) ≤ 0) = True from eq_true (by decide), ite_self]
  unfold rdX
  cases hr : rdT b n H 121 0 [] 0 with
  | inl e =>
    rw [hr] at o
    rw [sbg_l]
    refine ⟨fun e' q => ?_, fun r q => by cases q⟩
    cases q
    obtain ⟨M5, e5, F5, f5, c5, T5, h1, h2, h3⟩ := o
    exact ⟨M5, c5, e0.trans e5, F14.trans (F5.mono (fun a k q => Or.inl q)), f5, T5, h1, by omega, fun i hi => (h3 i hi).trans (d4 i)⟩
  | inr r =>
    rw [hr] at o
    rw [sbg_r]
    obtain ⟨c5, M5, i5, e5, G5, S5, -, J5, -⟩ := o
    obtain ⟨hW5, hX5, T5, hH5, hR5, hPc5, hSc5, hP5, ⟨h11, hp5⟩, h17, h18⟩ := S5
    obtain ⟨x1, x2⟩ := c_readEnd hW5 hX5 (k + 2) hp5 h11
    have F15 : Fr SRx M M5 := F14.trans (G5.1.mono (fun a k q => Or.inl q))
    have d5 : ∀ i, i < c → dC M5 i = dC M i := fun i hi => (G5.2.2.2 i hi).trans (d4 i)
    have hc5 := G5.2.2.1
    by_cases he : tq b n r.2.2 = n
    · rw [if_pos he]
      refine ⟨fun e q => (by cases q), fun r' q => ?_⟩
      cases q
      obtain ⟨M6, e6, F6⟩ := x1 he
      rw [show k + 2 + 2 = m by omega] at e6
      obtain ⟨T6, d6⟩ := tab_mv T5 F6 (fun a k q => by unfold SA at q; omega)
      refine ⟨M6, c5, e0.trans (e5.trans (fin (Or.inr rfl) hW5 hP5 e6)), F15.trans (F6.mono (fun a k q => by unfold SA at q; unfold SRx SRt; omega)), (F6.int (by unfold SA; omega)).trans h17, (F6.int (by unfold SA; omega)).trans h18, ?_, ?_, T6, hH5.up F6 (fun a k q => by unfold SA at q; omega) (fun i _ => d6 i) (Nat.le_refl _), G5.2.1, by show 2 * c5 + 2 * sz r.1 ≤ _; omega, fun i hi => (d6 i).trans (d5 i hi)⟩
      · exact (row37_mv hR5 F6 (fun a k q => by unfold SA at q; omega) (fun i _ => d6 i) (Nat.le_refl _)).1
      · exact hPc5.1.mv F6 (fun k => by unfold SA; omega)
    · rw [if_neg he]
      refine ⟨fun e q => ?_, fun r' q => (by cases q)⟩
      cases q
      obtain ⟨M6, e6, F6, f1, f2⟩ := x2 he
      rw [show k + 2 + 2 = m by omega] at e6
      obtain ⟨T6, d6⟩ := tab_mv T5 F6 (fun a k q => by unfold SE at q; omega)
      exact ⟨M6, c5, e0.trans (e5.trans (fin (Or.inl rfl) hW5 hP5 e6)), F15.trans (F6.mono (fun a k q => by unfold SE at q; unfold SRx SRt; omega)), ⟨f1, f2⟩, T6, G5.2.1, by omega, fun i hi => (d6 i).trans (d5 i hi)⟩
end RTX
