/-! READING A TERM in the class: the loop -/
section RTH
variable {M M1 : Mem} {c c1 : Nat} {b : Nat → Nat} {n : Nat} {H : List (Nat × Fm)} {sc : List Nat} {l : List (Nat × Tm)} {pls P : List Nat} {p : Nat}
noncomputable abbrev lpT (k i : Nat) (M : Mem) : Option (Int32 × Mem) := lp (st_X6_readTerm (k + 5)) (27, [.ref 14, .ref 10, .ref 37, .int (nI i)], M)
theorem RtS.pop {x : Nat} (h : RtS M c b n H sc l pls (P ++ [x]) p) : RtS (wI M 14 6 (nI P.length)) c b n H sc l pls P p := by
  obtain ⟨hW, hX, hT, hH, hR, hPc, hS, hP, ⟨h11, hp⟩, h17, h18⟩ := h
  have F : Fr (fun a k => a = 14 ∧ k = 6) M (wI M 14 6 (nI P.length)) := Fr.refl.wI ⟨rfl, rfl⟩ _
  have hd : ∀ i, i < c → dC (wI M 14 6 (nI P.length)) i = dC M i := fun _ _ => rfl
  exact ⟨hW.wI _ _ _, hX.fr F (by omega) (by omega) (by omega), hT, hH.up F (fun a k q => by omega) hd (Nat.le_refl _), row37_mv hR F (fun a k q => by omega) hd (Nat.le_refl _), ⟨hPc.1.mv F (by omega), hPc.2⟩, hS.mv F (by omega) (by omega), (c_pop hW hP 0).2, ⟨by simp [up2_if, h11], hp⟩, by simp [up2_if, h17], by simp [up2_if, h18]⟩
theorem rt_item {x i : Nat} (h : RtS M c b n H sc l pls (P ++ [x]) p) (hi : i < 854) (k : Nat) : (f_X6_readWanted (k + 4) 14 (nI x) 10 37 (wI M 14 6 (nI P.length)) = some (1, M1) → lpT k i M = lpT k (i + 1) M1) ∧ (f_X6_readWanted (k + 4) 14 (nI x) 10 37 (wI M 14 6 (nI P.length)) = some (0, M1) → lpT k i M = some (0, M1)) := by
  obtain ⟨hW, hX, hT, hH, hR, hPc, hS, hP, ⟨h11, hp⟩, h17, h18⟩ := h
  have hl := hP.2.1
  have h6 := hP.1
  simp only [List.length_append, List.length_cons, List.length_nil] at hl h6
  have hO := fO_14 hW
  have hO1 : fO (wI M 14 6 (nI P.length)) 14 6 := hO
  have e : aLen M 21 = some 854 := by simp [aLen, W_14 hW]
  have ep := (c_pop hW hP (k + 3)).1
  obtain ⟨m, hm⟩ : ∃ m, m = k + 4 := ⟨_, rfl⟩
  rw [show k + 3 + 1 = m by omega] at ep
  unfold lpT
  rw [← hm, show k + 5 = m + 1 by omega]
  have hz : (nI (P.length + 1) ≤ (0 : Int32)) = False := eq_false (fun q => by have := (nI_leI (b := 0) (by omega) (by omega)).mp q; omega)
  constructor
  · intro er
    refine (ge_X6_readTerm_27 (m + 1) 14 10 37 (nI i) M).trans ?_
    unfold T_X6_readTerm_27
    simp (disch := omega) only [↓reduceIte, ↓gd_pos hO, ↓gd_pos hO1, ↓bnd_of (r_14_5 hW), ↓bnd_of e, show Int32.ofNat 854 = nI 854 from rfl, nI_le_, eq_false (show ¬ 854 ≤ i by omega), h6, hz, ↓bnd2_of (show cal (m + 1) (fun zz => f_X6_pop zz 14 M) = _ from ep), ↓bnd2_of (show cal (m + 1) (fun zz => f_X6_readWanted zz 14 (nI x) 10 37 (wI M 14 6 (nI P.length))) = _ from er), show ((1 : Int32) = 0) = False from eq_false (by decide), nI_1]
  · intro er
    refine (ge_X6_readTerm_27 (m + 1) 14 10 37 (nI i) M).trans ?_
    unfold T_X6_readTerm_27
    simp (disch := omega) only [↓reduceIte, ↓gd_pos hO, ↓gd_pos hO1, ↓bnd_of (r_14_5 hW), ↓bnd_of e, show Int32.ofNat 854 = nI 854 from rfl, nI_le_, eq_false (show ¬ 854 ≤ i by omega), h6, hz, ↓bnd2_of (show cal (m + 1) (fun zz => f_X6_pop zz 14 M) = _ from ep), ↓bnd2_of (show cal (m + 1) (fun zz => f_X6_readWanted zz 14 (nI x) 10 37 (wI M 14 6 (nI P.length))) = _ from er)]
/-- what is known behind a piece that went wrong -/
def RtF (M : Mem) (c n p : Nat) (M1 : Mem) (e : Nat × Nat) : Prop := Fr SRt M M1 ∧ FlC M1 e ∧ ∃ c1, TabC M1 c1 ∧ c ≤ c1 ∧ 2 * c1 ≤ 2 * c + (n - p) ∧ ∀ i, i < c → dC M1 i = dC M i
/-- and behind one that is read -/
def RtG (M : Mem) (c n p : Nat) (M1 : Mem) (c1 q : Nat) : Prop := Fr SRt M M1 ∧ c ≤ c1 ∧ 2 * c1 + (n - q) ≤ 2 * c + (n - p) ∧ ∀ i, i < c → dC M1 i = dC M i
theorem RtG.trans {M M1 M2 : Mem} {c c1 c2 n p q r : Nat} (h : RtG M c n p M1 c1 q) (k : RtG M1 c1 n q M2 c2 r) : RtG M c n p M2 c2 r := ⟨h.1.trans k.1, Nat.le_trans h.2.1 k.2.1, Nat.le_trans k.2.2.1 h.2.2.1, fun i hi => (k.2.2.2 i (Nat.lt_of_lt_of_le hi h.2.1)).trans (h.2.2.2 i hi)⟩
theorem RtG.flt {M M1 M2 : Mem} {c c1 n p q : Nat} {e : Nat × Nat} (h : RtG M c n p M1 c1 q) (k : RtF M1 c1 n q M2 e) : RtF M c n p M2 e := by
  obtain ⟨k1, k2, c2, k3, k4, k5, k6⟩ := k
  exact ⟨h.1.trans k1, k2, c2, k3, Nat.le_trans h.2.1 k4, by have := h.2.2.1; omega, fun i hi => (k6 i (Nat.lt_of_lt_of_le hi h.2.1)).trans (h.2.2.2 i hi)⟩
theorem rw_eq (k : Nat) (x : Int32) (M : Mem) : f_X6_readWanted (k + 1) 14 x 10 37 M = T_X6_readWanted_0 (fun v M => some (v, M)) none (k + 1) 14 x 10 37 M := rfl
/-- a name is told -/
theorem rt_bind {i : Nat} (h : RtS M c b n H sc l pls (P ++ [3]) p) (hi : i < 854) (k : Nat) : (∀ e, rdB b n p sc = .inl e → ∃ M1, lpT k i M = some (0, M1) ∧ RtF M c n p M1 e) ∧ (∀ u, rdB b n p sc = .inr u → ∃ M1, lpT k i M = lpT k (i + 1) M1 ∧ RtG M c n p M1 c u.2 ∧ RtS M1 c b n H (sc ++ [u.1]) l pls P u.2) := by
  obtain ⟨hW, hX, hT, hH, hR, hPc, hS, hP, ⟨h11, hp⟩, h17, h18⟩ := h.pop
  have F0 : Fr SRt M (wI M 14 6 (nI P.length)) := Fr.refl.wI (by unfold SRt; omega) _
  obtain ⟨g1, g2⟩ := c_binder hW hX hp h11 hS (k + 1)
  have hO := fO_14 hW
  have hSB : ∀ a k, SBn a k → SRt a k := fun a k q => by unfold SBn SE at q; unfold SRt; omega
  have d0 : ∀ i, dC (wI M 14 6 (nI P.length)) i = dC M i := fun _ => rfl
  obtain ⟨m, hm⟩ : ∃ m, m = k + 3 := ⟨_, rfl⟩
  constructor
  · intro e he
    obtain ⟨M1, e1, F1, f1, f2⟩ := g1 e he
    obtain ⟨T1, d1⟩ := tab_mv hT F1 (fun a k q => by unfold SBn SE at q; omega)
    refine ⟨M1, (rt_item h hi k).2 ?_, F0.trans (F1.mono hSB), ⟨f1, f2⟩, c, T1, Nat.le_refl _, by omega, fun i _ => (d1 i).trans (d0 i)⟩
    rw [show k + 1 + 2 = m by omega] at e1
    rw [show k + 4 = m + 1 by omega, rw_eq]
    unfold T_X6_readWanted_0
    simp (disch := omega) only [↓reduceIte, show (nI 3 = (2 : Int32)) = False from eq_false (by decide), show (nI 3 = (3 : Int32)) = True from eq_true rfl, ↓gd_pos hO, ↓bnd2_of (show cal (m + 1) (fun zz => f_X6_readBinder zz 14 (wI M 14 6 (nI P.length))) = _ from e1), nar_b0, gd_true]
  · intro u hu
    obtain ⟨M1, e1, F1, f1, f2, f3, f4⟩ := g2 u hu
    obtain ⟨T1, d1⟩ := tab_mv hT F1 (fun a k q => by unfold SBn SE at q; omega)
    obtain ⟨q1, q2, q3⟩ := rdB_in hu
    have hle := tq_le b n p hp
    have hu2 : u.2 ≤ n ∧ p ≤ u.2 := by rw [q3]; exact ⟨hle.2.2.2, by show p ≤ te b n p; omega⟩
    refine ⟨M1, (rt_item h hi k).1 ?_, ⟨F0.trans (F1.mono hSB), Nat.le_refl _, by omega, fun i _ => (d1 i).trans (d0 i)⟩, F1.Wd hW, hX.fr F1 (by unfold SBn SE; omega) (fun k => by unfold SBn SE; omega) (fun k => by unfold SBn SE; omega), T1, hH.up F1 (fun a k q => by unfold SBn SE at q; omega) (fun i _ => d1 i) (Nat.le_refl _), row37_mv hR F1 (fun a k q => by unfold SBn SE at q; omega) (fun i _ => d1 i) (Nat.le_refl _), ⟨hPc.1.mv F1 (fun k => by unfold SBn SE; omega), hPc.2⟩, f4, hP.mv F1 (by unfold SBn SE; omega) (fun k => by unfold SBn SE; omega), ⟨f3, hu2.1⟩, f1.trans h17, f2.trans h18⟩
    rw [show k + 1 + 2 = m by omega] at e1
    rw [show k + 4 = m + 1 by omega, rw_eq]
    unfold T_X6_readWanted_0
    simp (disch := omega) only [↓reduceIte, show (nI 3 = (2 : Int32)) = False from eq_false (by decide), show (nI 3 = (3 : Int32)) = True from eq_true rfl, ↓gd_pos hO, ↓bnd2_of (show cal (m + 1) (fun zz => f_X6_readBinder zz 14 (wI M 14 6 (nI P.length))) = _ from e1), nar_b1, gd_true]
/-- and forgotten -/
theorem rt_forget {i nm : Nat} (h : RtS M c b n H (sc ++ [nm]) l pls (P ++ [4]) p) (hi : i < 854) (k : Nat) : ∃ M1, lpT k i M = lpT k (i + 1) M1 ∧ RtG M c n p M1 c p ∧ RtS M1 c b n H sc l pls P p := by
  obtain ⟨hW, hX, hT, hH, hR, hPc, hS, hP, ⟨h11, hp⟩, h17, h18⟩ := h.pop
  have F0 : Fr SRt M (wI M 14 6 (nI P.length)) := Fr.refl.wI (by unfold SRt; omega) _
  have hO := fO_14 hW
  obtain ⟨M2, hM2⟩ : ∃ M2, M2 = wI M 14 6 (nI P.length) := ⟨_, rfl⟩
  have F : Fr (fun a k => a = 14 ∧ k = 8) M2 (wI M2 14 8 (nI sc.length)) := Fr.refl.wI ⟨rfl, rfl⟩ _
  rw [← hM2] at hW hX hT hH hR hPc hS hP h11 h17 h18 F0 hO
  have hS1 := hS.1
  have h24 := hS.2.1
  simp only [List.length_append, List.length_cons, List.length_nil] at hS1 h24
  have d0 : ∀ i, dC M2 i = dC M i := fun _ => by rw [hM2]; rfl
  have hd : ∀ i, i < c → dC (wI M2 14 8 (nI sc.length)) i = dC M2 i := fun _ _ => rfl
  refine ⟨wI M2 14 8 (nI sc.length), (rt_item h hi k).1 ?_, ⟨F0.wI (by unfold SRt; omega) _, Nat.le_refl _, Nat.le_refl _, fun i _ => d0 i⟩, hW.wI _ _ _, hX.fr F (by omega) (by omega) (by omega), hT, hH.up F (fun a k q => by omega) hd (Nat.le_refl _), row37_mv hR F (fun a k q => by omega) hd (Nat.le_refl _), ⟨hPc.1.mv F (by omega), hPc.2⟩, ⟨by simp [up2_if], by omega, fun i hi => ?_⟩, hP.mv F (by omega) (by omega), ⟨by simp [up2_if, h11], hp⟩, by simp [up2_if, h17], by simp [up2_if, h18]⟩
  · rw [← hM2]
    have hpm : M2.2.2.1 14 8 - 1 = nI sc.length := by
      rw [hS1]
      exact pm_sub (sc.length + 1)
    rw [show k + 4 = (k + 3) + 1 by omega, rw_eq]
    unfold T_X6_readWanted_0
    simp (disch := omega) only [↓reduceIte, show (nI 4 = (2 : Int32)) = False from eq_false (by decide), show (nI 4 = (3 : Int32)) = False from eq_false (by decide), show (nI 4 = (4 : Int32)) = True from eq_true rfl, ↓gd_pos hO, hpm]
  · have := hS.2.2 i (by simp; omega)
    rw [List.getD_eq_getElem?_getD, List.getElem?_append_left hi, ← List.getD_eq_getElem?_getD] at this
    exact ⟨(F.int (by omega)).trans this.1, this.2⟩
theorem row_tell {o : Nat} {lb g : Tm} (h : RowC M 37 c (l ++ [(o, lb)])) (ho : tf o) {f : Nat} (e0 : M1.2.2.1 37 2 = M.2.2.1 37 2) (e1 : M1.2.2.1 38 = M.2.2.1 38) (e2 : ∀ i, i < l.length → M1.2.2.1 39 i = M.2.2.1 39 i) (e3 : M1.2.2.1 39 l.length = nI f) (hf : f < c1) (hg : dC M1 f = g) (hd : ∀ i, i < c → dC M1 i = dC M i) (hc : c ≤ c1) : RowC M1 37 c1 (l ++ [(o, g)]) := by
  obtain ⟨h1, h2, h3, h4⟩ := h
  have ho' : 1 ≤ o ∧ o ≤ 10 := h3 (o, lb) (by simp)
  refine ⟨by rw [e0, h1]; simp, by simpa using h2, fun nd hn => ?_, fun i nd hi => ?_⟩
  · rw [List.mem_append, List.mem_singleton] at hn
    rcases hn with hn | rfl
    · exact h3 nd (by simp [hn])
    · exact ho'
  · rcases get_app hi with ⟨g1, g2⟩ | ⟨g1, g2⟩
    · obtain ⟨a1, a2⟩ := h4 i nd (by rw [List.getElem?_append_left g1]; exact g2)
      show M1.2.2.1 38 i = _ ∧ agC M1 c1 nd (M1.2.2.1 39 i)
      rw [e1, e2 i g1]
      exact ⟨a1, a2.mv hd hc⟩
    · subst g1 g2
      obtain ⟨a1, -⟩ := h4 l.length (o, lb) (by simp)
      show M1.2.2.1 38 l.length = _ ∧ agC M1 c1 (o, g) (M1.2.2.1 39 l.length)
      rw [e1, e3]
      refine ⟨a1, fun q => ?_, fun _ => ⟨f, hf, rfl, hg⟩, fun _ q => (q ho).elim⟩
      unfold tf at ho
      replace q : o = 1 := q
      omega
set_option maxHeartbeats 1000000 in
/-- a formula is told -/
theorem rt_form {i o : Nat} {lb : Tm} (h : RtS M c b n H sc (l ++ [(o, lb)]) pls (P ++ [2]) p) (ho : tf o) (hi : i < 854) (hc : 2 * c + (n - p) ≤ 10300) (hlt : p < n → ¬ isLt (b p)) (k : Nat) : (∀ e, scan b n 30 p 1 = .inl e → ∃ M1, lpT k i M = some (0, M1) ∧ RtF M c n p M1 e) ∧ (∀ w, scan b n 30 p 1 = .inr w → ∃ c1 M1, lpT k i M = lpT k (i + 1) M1 ∧ RtG M c n p M1 c1 w.2 ∧ RtS M1 c1 b n H sc (l ++ [(o, hdF w.1)]) pls P w.2) := by
  obtain ⟨hW, hX, hT, hH, hR, hPc, hS, hP, ⟨h11, hp⟩, h17, h18⟩ := h.pop
  have F0 : Fr SRt M (wI M 14 6 (nI P.length)) := Fr.refl.wI (by unfold SRt; omega) _
  have hO := fO_14 hW
  have d0 : ∀ i, dC (wI M 14 6 (nI P.length)) i = dC M i := fun _ => rfl
  obtain ⟨g1, g2⟩ := c_readFormula hW hX hT k hp h11 (by omega)
  have hl := hR.1.2.1
  simp only [List.length_append, List.length_cons, List.length_nil] at hl
  obtain ⟨m, hm⟩ : ∃ m, m = k + 3 := ⟨_, rfl⟩
  have hSB : ∀ a k, SRB a k → SRt a k := fun a k q => by unfold SRB SRF SF at q; unfold SRt SF; omega
  have hSB2 : ∀ a k, SRB a k → a ≤ 9 ∨ a = 14 ∨ a = 20 := fun a k q => by unfold SRB SRF SF at q; omega
  constructor
  · intro e he
    obtain ⟨M1, e1, F1, f1, f2⟩ := g1 e.1 e.2 he
    obtain ⟨T1, d1⟩ := tab_mv hT F1 (fun a k q => by unfold SRF at q; omega)
    have hW1 := F1.Wd hW
    have hN1 : M1.2.2.1 37 2 = nI (l.length + 1) := by
      rw [F1.int (by unfold SRF; omega), hR.1.1]
      simp
    have hO1 : fO M1 37 9 := ⟨by rw [hW1.1]; omega, s_37 hW1⟩
    have et : f_X9_tell m 37 ((M1.2.2.1 37 2) - 1) (-1) M1 = some ((), wI M1 39 l.length (-1)) := by
      rw [hN1, show nI (l.length + 1) - 1 = nI l.length from pm_sub (l.length + 1)]
      have hA := fA_R hW1 (a := 39) (by omega) (s_39 hW1) (show l.length < 200 by omega) (by omega)
      unfold f_X9_tell b_X9_tell T_X9_tell_0
      simp (disch := omega) only [↓reduceIte, nI_lt0, ↓gd_pos hO1, hN1, nI_le_, eq_false (show ¬ l.length + 1 ≤ l.length by omega), ↓bnd_of (r_37_1 hW1), ↓gd_pos hA, nI_z]
    refine ⟨wI M1 39 l.length (-1), (rt_item h hi k).2 ?_, (F0.trans (F1.mono (fun a k q => hSB a k (Or.inl q)))).wI (by unfold SRt SO; omega) _, ⟨by simp [up2_if, f1], by simp [up2_if, f2]⟩, c, T1, Nat.le_refl _, by omega, fun i _ => (d1 i).trans (d0 i)⟩
    rw [show k + 3 = m by omega] at e1
    rw [show k + 4 = m + 1 by omega, rw_eq]
    unfold T_X6_readWanted_0
    simp (disch := omega) only [↓reduceIte, show (nI 2 = (2 : Int32)) = True from eq_true rfl, ↓gd_pos hO, ↓bnd2_of (show cal (m + 1) (fun zz => f_X6_readFormula zz 14 (wI M 14 6 (nI P.length))) = _ from e1), ↓gd_pos hO1, ↓bnd2_of (show cal (m + 1) (fun zz => f_X9_tell zz 37 ((M1.2.2.1 37 2) - 1) (-1) M1) = _ from et)]
  · intro w hw
    obtain ⟨f, c1, M1, e1, F1, f1, f2, f3, -, -, f4, f5, f6, T1, d1, f7⟩ := g2 w.1 w.2 hw
    have hW1 := F1.Wd hW
    have hN1 : M1.2.2.1 37 2 = nI (l.length + 1) := by
      rw [F1.int (fun q => by have := hSB2 _ _ q; omega), hR.1.1]
      simp
    have hO1 : fO M1 37 9 := ⟨by rw [hW1.1]; omega, s_37 hW1⟩
    have hT1 := T1.2.1
    have et : f_X9_tell m 37 ((M1.2.2.1 37 2) - 1) (nI f) M1 = some ((), wI M1 39 l.length (nI f)) := by
      rw [hN1, show nI (l.length + 1) - 1 = nI l.length from pm_sub (l.length + 1)]
      have hA := fA_R hW1 (a := 39) (by omega) (s_39 hW1) (show l.length < 200 by omega) (by omega)
      unfold f_X9_tell b_X9_tell T_X9_tell_0
      simp (disch := omega) only [↓reduceIte, nI_lt0, ↓gd_pos hO1, hN1, nI_le_, eq_false (show ¬ l.length + 1 ≤ l.length by omega), ↓bnd_of (r_37_1 hW1), ↓gd_pos hA, nI_z]
    have F2 : Fr (fun a k => a = 39) M1 (wI M1 39 l.length (nI f)) := Fr.refl.wI (S := fun a k => a = 39) rfl _
    have d2 : ∀ i, dC (wI M1 39 l.length (nI f)) i = dC M1 i := fun _ => rfl
    have hq := (scan_chk (l := w.1) (q := w.2) hp hw).2
    have hby := scan_bytes0 (l := w.1) (q := w.2) hp hlt hw
    have X1 : TxC M1 b n := hX.fr F1 (by unfold SRB SRF SF; omega) (fun k => by unfold SRB SRF SF; omega) (fun k => by unfold SRB SRF SF; omega)
    refine ⟨c1, wI M1 39 l.length (nI f), (rt_item h hi k).1 ?_, ⟨(F0.trans (F1.mono hSB)).wI (by unfold SRt SO; omega) _, f5, by omega, fun i hi => (d1 i hi).trans (d0 i)⟩, hW1.wI _ _ _, X1.fr F2 (by omega) (by omega) (by omega), T1, (hH.up F1 (fun a k q => by have := hSB2 _ _ q; omega) d1 f5).up F2 (fun a k q => by omega) (fun i _ => d2 i) (Nat.le_refl _), ⟨row_tell (M := wI M 14 6 (nI P.length)) hR.1 ho (f := f) ?_ ?_ (fun j hj => ?_) (by simp [up2_if]) f4 ?_ (fun i hi => d1 i hi) f5, ?_⟩, ⟨(hPc.1.mv F1 (fun k q => by have := hSB2 _ _ q; omega)).mv F2 (by omega), by rw [hPc.2]; simp⟩, (hS.mv F1 (by unfold SRB SRF SF; omega) (fun k q => by have := hSB2 _ _ q; omega)).mv F2 (by omega) (by omega), (hP.mv F1 (by unfold SRB SRF SF; omega) (fun k q => by have := hSB2 _ _ q; omega)).mv F2 (by omega) (by omega), ⟨by simp [up2_if, f3], hq⟩, by simp [up2_if, f1.trans h17], by simp [up2_if, f2.trans h18]⟩
    · rw [show k + 3 = m by omega] at e1
      rw [show k + 4 = m + 1 by omega, rw_eq]
      unfold T_X6_readWanted_0
      simp (disch := omega) only [↓reduceIte, show (nI 2 = (2 : Int32)) = True from eq_true rfl, ↓gd_pos hO, ↓bnd2_of (show cal (m + 1) (fun zz => f_X6_readFormula zz 14 (wI M 14 6 (nI P.length))) = _ from e1), ↓gd_pos hO1, ↓bnd2_of (show cal (m + 1) (fun zz => f_X9_tell zz 37 ((M1.2.2.1 37 2) - 1) (nI f) M1) = _ from et), nI_ne_m1]
    · rw [F2.int (by omega), F1.int (fun q => by have := hSB2 _ _ q; omega)]
    · rw [F2.ints (by omega), F1.ints (fun k q => by have := hSB2 _ _ q; omega)]
    · have ne : j ≠ l.length := by omega
      have : M1.2.2.1 39 j = (wI M 14 6 (nI P.length)).2.2.1 39 j := F1.int (fun q => by have := hSB2 _ _ q; omega)
      rw [← this]
      simp [up2_if, ne]
    · rw [d2]
      exact (hdF_is f7).symm
    · rw [F2.int (by omega), F1.int (fun q => by have := hSB2 _ _ q; omega)]
      exact hR.2
end RTH
