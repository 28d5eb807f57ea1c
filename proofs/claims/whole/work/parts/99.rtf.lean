/-! READING A TERM in the class: a first word -/
def WrP (o : Nat) : List Nat := if o = 9 then [4, 1, 3, 4, 1, 3, 1] else if o = 2 then [4, 1, 2, 3] else if o = 3 ∨ o = 4 then [1, 1] else if o = 5 ∨ o = 6 then [1] else [1, 2]
theorem WrP_len (o : Nat) : (WrP o).length ≤ 7 := by
  unfold WrP
  repeat' split
  all_goals simp
def lb0 (o : Nat) : Tm := if o = 2 ∨ o = 7 ∨ o = 8 ∨ o = 10 then .arg 0 else .null
section RTF
variable {M M1 : Mem} {b : Nat → Nat} {n : Nat}
theorem fO_14 (hW : Wd M) : fO M 14 6 := ⟨by rw [hW.1]; omega, s_14 hW⟩
theorem c_wantBound (hW : Wd M) {P : List Nat} (hP : PlC M P) (hl : P.length + 2 ≤ 854) (k : Nat) : ∃ M1, f_X6_wantBoundTerm (k + 1) 14 M = some ((), M1) ∧ Fr SPl M M1 ∧ PlC M1 (P ++ [4, 1]) := by
  obtain ⟨M1, e1, F1, P1⟩ := c_push hW hP (by omega) k 4
  have hW1 := F1.Wd hW
  obtain ⟨M2, e2, F2, P2⟩ := c_push hW1 P1 (by simp; omega) k 1
  have hO := fO_14 hW
  have hO1 := fO_14 hW1
  refine ⟨M2, ?_, F1.trans F2, by simpa using P2⟩
  have e1' : f_X6_push k 14 4 M = some ((), M1) := e1
  have e2' : f_X6_push k 14 1 M1 = some ((), M2) := e2
  unfold f_X6_wantBoundTerm b_X6_wantBoundTerm T_X6_wantBoundTerm_0
  simp only [↓gd_pos hO, ↓gd_pos hO1, ↓bnd2_of (show cal (k + 1) (fun n => f_X6_push n 14 4 M) = _ from e1'), ↓bnd2_of (show cal (k + 1) (fun n => f_X6_push n 14 1 M1) = _ from e2')]
theorem c_tellsF (k : Nat) {o : Nat} (h : o ≤ 10) : f_X10_tellsFormula k (nI o) M = some (if o = 2 ∨ o = 7 ∨ o = 8 ∨ o = 10 then 1 else 0, M) := by
  have ho : o = 0 ∨ o = 1 ∨ o = 2 ∨ o = 3 ∨ o = 4 ∨ o = 5 ∨ o = 6 ∨ o = 7 ∨ o = 8 ∨ o = 9 ∨ o = 10 := by omega
  rcases ho with rfl | rfl | rfl | rfl | rfl | rfl | rfl | rfl | rfl | rfl | rfl <;> rfl
theorem wr_56s (hW : Wd M) {P : List Nat} (hP : PlC M P) (hl : P.length < 854) (k : Nat) {o j : Nat} (h1 : 1 ≤ o) (h2 : o ≤ 10) (hj : j < ar o) : ∃ M1, lp (st_X6_wantRest (k + 1)) (56, [.ref 14, .int (nI o), .int (nI j)], M) = lp (st_X6_wantRest (k + 1)) (56, [.ref 14, .int (nI o), .int (nI (j + 1))], M1) ∧ Fr SPl M M1 ∧ PlC M1 (P ++ [1]) := by
  obtain ⟨M1, e1, F1, P1⟩ := c_push hW hP hl k 1
  have hO := fO_14 hW
  have ea := c_arity (M := M) k h1 h2
  have e1' : f_X6_push k 14 1 M = some ((), M1) := e1
  have ha3 : ar o ≤ 3 := by
    unfold ar
    repeat' split
    all_goals omega
  refine ⟨M1, ?_, F1, P1⟩
  refine (ge_X6_wantRest_56 (k + 1) 14 (nI o) (nI j) M).trans ?_
  unfold T_X6_wantRest_56
  simp (disch := omega) only [↓reduceIte, ↓bnd2_of (show cal (k + 1) (fun n => f_X10_arity n (nI o) M) = _ from ea), nI_le_, eq_false (show ¬ ar o ≤ j by omega), ↓gd_pos hO, ↓bnd2_of (show cal (k + 1) (fun n => f_X6_push n 14 1 M) = _ from e1'), nI_1]
theorem wr_56e (hW : Wd M) {P : List Nat} (hP : PlC M P) (hl : P.length < 854) (k : Nat) {o : Nat} (h1 : 1 ≤ o) (h2 : o ≤ 10) : ∃ M1, lp (st_X6_wantRest (k + 1)) (56, [.ref 14, .int (nI o), .int (nI (ar o))], M) = some ((), M1) ∧ Fr SPl M M1 ∧ PlC M1 (P ++ (if o = 2 ∨ o = 7 ∨ o = 8 ∨ o = 10 then [2] else [])) := by
  have ea := c_arity (M := M) k h1 h2
  have et := c_tellsF (M := M) k h2
  have hO := fO_14 hW
  have ha3 : ar o ≤ 3 := by
    unfold ar
    repeat' split
    all_goals omega
  by_cases h : o = 2 ∨ o = 7 ∨ o = 8 ∨ o = 10
  · obtain ⟨M1, e1, F1, P1⟩ := c_push hW hP hl k 2
    have e1' : f_X6_push k 14 2 M = some ((), M1) := e1
    rw [if_pos h] at et ⊢
    refine ⟨M1, ?_, F1, P1⟩
    refine (ge_X6_wantRest_56 (k + 1) 14 (nI o) (nI (ar o)) M).trans ?_
    unfold T_X6_wantRest_56
    simp (disch := omega) only [↓reduceIte, ↓bnd2_of (show cal (k + 1) (fun n => f_X10_arity n (nI o) M) = _ from ea), nI_le_, Nat.le_refl, ↓bnd2_of (show cal (k + 1) (fun n => f_X10_tellsFormula n (nI o) M) = _ from et), show ((1 : Int32) = 0) = False from eq_false (by decide), ↓gd_pos hO, ↓bnd2_of (show cal (k + 1) (fun n => f_X6_push n 14 2 M) = _ from e1')]
  · rw [if_neg h] at et ⊢
    refine ⟨M, ?_, Fr.refl, by simpa using hP⟩
    refine (ge_X6_wantRest_56 (k + 1) 14 (nI o) (nI (ar o)) M).trans ?_
    unfold T_X6_wantRest_56
    simp (disch := omega) only [↓reduceIte, ↓bnd2_of (show cal (k + 1) (fun n => f_X10_arity n (nI o) M) = _ from ea), nI_le_, Nat.le_refl, ↓bnd2_of (show cal (k + 1) (fun n => f_X10_tellsFormula n (nI o) M) = _ from et)]
set_option maxHeartbeats 1000000 in
theorem c_wantRest (hW : Wd M) {P : List Nat} (hP : PlC M P) (hl : P.length + 7 ≤ 854) (k : Nat) {o : Nat} (h1 : 2 ≤ o) (h2 : o ≤ 10) : ∃ M1, f_X6_wantRest (k + 2) 14 (nI o) M = some ((), M1) ∧ Fr SPl M M1 ∧ PlC M1 (P ++ WrP o) := by
  have hO := fO_14 hW
  obtain ⟨m, hm⟩ : ∃ m, m = k + 1 := ⟨_, rfl⟩
  by_cases h9 : o = 9
  · subst h9
    obtain ⟨M1, e1, F1, P1⟩ := c_wantBound hW hP (by omega) k
    have hW1 := F1.Wd hW
    obtain ⟨M2, e2, F2, P2⟩ := c_push hW1 P1 (by simp; omega) m 3
    have hW2 := F2.Wd hW1
    obtain ⟨M3, e3, F3, P3⟩ := c_wantBound hW2 P2 (by simp; omega) k
    have hW3 := F3.Wd hW2
    obtain ⟨M4, e4, F4, P4⟩ := c_push hW3 P3 (by simp; omega) m 3
    have hW4 := F4.Wd hW3
    obtain ⟨M5, e5, F5, P5⟩ := c_push hW4 P4 (by simp; omega) m 1
    rw [← hm] at e1 e3
    have e2' : f_X6_push m 14 3 M1 = some ((), M2) := e2
    have e4' : f_X6_push m 14 3 M3 = some ((), M4) := e4
    have e5' : f_X6_push m 14 1 M4 = some ((), M5) := e5
    refine ⟨M5, ?_, (((F1.trans F2).trans F3).trans F4).trans F5, by simpa [WrP] using P5⟩
    rw [show k + 2 = m + 1 by omega]
    refine (ge_X6_wantRest_0 (m + 1) 14 (nI 9) M).trans ?_
    unfold T_X6_wantRest_0
    simp (disch := omega) only [↓reduceIte, show (nI 9 = (9 : Int32)) = True from eq_true rfl, ↓gd_pos hO, ↓gd_pos (fO_14 hW1), ↓gd_pos (fO_14 hW2), ↓gd_pos (fO_14 hW3), ↓gd_pos (fO_14 hW4), ↓bnd2_of (show cal (m + 1) (fun n => f_X6_wantBoundTerm n 14 M) = _ from e1), ↓bnd2_of (show cal (m + 1) (fun n => f_X6_push n 14 3 M1) = _ from e2'), ↓bnd2_of (show cal (m + 1) (fun n => f_X6_wantBoundTerm n 14 M2) = _ from e3), ↓bnd2_of (show cal (m + 1) (fun n => f_X6_push n 14 3 M3) = _ from e4'), ↓bnd2_of (show cal (m + 1) (fun n => f_X6_push n 14 1 M4) = _ from e5')]
  · by_cases h2' : o = 2
    · subst h2'
      obtain ⟨M1, e1, F1, P1⟩ := c_wantBound hW hP (by omega) k
      have hW1 := F1.Wd hW
      obtain ⟨M2, e2, F2, P2⟩ := c_push hW1 P1 (by simp; omega) m 2
      have hW2 := F2.Wd hW1
      obtain ⟨M3, e3, F3, P3⟩ := c_push hW2 P2 (by simp; omega) m 3
      rw [← hm] at e1
      have e2' : f_X6_push m 14 2 M1 = some ((), M2) := e2
      have e3' : f_X6_push m 14 3 M2 = some ((), M3) := e3
      refine ⟨M3, ?_, (F1.trans F2).trans F3, by simpa [WrP] using P3⟩
      rw [show k + 2 = m + 1 by omega]
      refine (ge_X6_wantRest_0 (m + 1) 14 (nI 2) M).trans ?_
      unfold T_X6_wantRest_0
      simp (disch := omega) only [↓reduceIte, show (nI 2 = (9 : Int32)) = False from eq_false (by decide), show (nI 2 = (2 : Int32)) = True from eq_true rfl, ↓gd_pos hO, ↓gd_pos (fO_14 hW1), ↓gd_pos (fO_14 hW2), ↓bnd2_of (show cal (m + 1) (fun n => f_X6_wantBoundTerm n 14 M) = _ from e1), ↓bnd2_of (show cal (m + 1) (fun n => f_X6_push n 14 2 M1) = _ from e2'), ↓bnd2_of (show cal (m + 1) (fun n => f_X6_push n 14 3 M2) = _ from e3')]
    · have e0 : f_X6_wantRest (m + 1) 14 (nI o) M = lp (st_X6_wantRest (m + 1)) (56, [.ref 14, .int (nI o), .int (nI 0)], M) := by
        refine (ge_X6_wantRest_0 (m + 1) 14 (nI o) M).trans ?_
        unfold T_X6_wantRest_0
        simp (disch := omega) only [↓reduceIte, show (9 : Int32) = nI 9 from rfl, show (2 : Int32) = nI 2 from rfl, nI_eq_, eq_false h9, eq_false h2']
        rfl
      rw [show k + 2 = m + 1 by omega]
      by_cases h34 : o = 3 ∨ o = 4
      · have ha := ar_B h34
        obtain ⟨M1, e1, F1, P1⟩ := wr_56s hW hP (by omega) m (o := o) (j := 0) (by omega) h2 (by omega)
        obtain ⟨M2, e2, F2, P2⟩ := wr_56s (F1.Wd hW) P1 (by simp; omega) m (o := o) (j := 1) (by omega) h2 (by omega)
        obtain ⟨M3, e3, F3, P3⟩ := wr_56e (F2.Wd (F1.Wd hW)) P2 (by simp; omega) m (o := o) (by omega) h2
        rw [ha] at e3
        refine ⟨M3, e0.trans (e1.trans (e2.trans e3)), (F1.trans F2).trans F3, ?_⟩
        rw [if_neg (by omega)] at P3
        have : WrP o = [1, 1] := by
          unfold WrP
          rw [if_neg h9, if_neg h2', if_pos h34]
        rw [this]
        simpa using P3
      · have hu : ar o = 1 := by
          unfold ar
          rw [if_neg (by omega), if_neg h9, if_neg h34]
        obtain ⟨M1, e1, F1, P1⟩ := wr_56s hW hP (by omega) m (o := o) (j := 0) (by omega) h2 (by omega)
        obtain ⟨M3, e3, F3, P3⟩ := wr_56e (F1.Wd hW) P1 (by simp; omega) m (o := o) (by omega) h2
        rw [hu] at e3
        refine ⟨M3, e0.trans (e1.trans e3), F1.trans F3, ?_⟩
        by_cases h56 : o = 5 ∨ o = 6
        · rw [if_neg (by omega)] at P3
          have : WrP o = [1] := by
            unfold WrP
            rw [if_neg h9, if_neg h2', if_neg h34, if_pos h56]
          rw [this]
          simpa using P3
        · rw [if_pos (by omega)] at P3
          have : WrP o = [1, 2] := by
            unfold WrP
            rw [if_neg h9, if_neg h2', if_neg h34, if_neg h56]
          rw [this]
          simpa using P3
end RTF
