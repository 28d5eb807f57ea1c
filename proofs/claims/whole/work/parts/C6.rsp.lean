/-! A STEP in the reference -/
section RSP
variable {c : Nat} {l : List (Nat × Tm)} {Hl : List (Nat × Fm)} {CI : Fm → Prop}
def HCp (c0 : Nat) (CI : Fm → Prop) : Prop := ∀ (M : Mem) (c : Nat), TabR M c → NewR M c c0 CI → c < 16384
theorem rx_asked {M : Mem} {t : Tm} {x : Fm} (hW : Wd M) (hT : TabR M c) (ht : isT t) (hR : WrkR M c (rws t)) (hH : HyS M c Hl) (h2 : sz t ≤ 200) (hw : Wc CI Hl.length (hF Hl) t 0 gN 0 x) {c0 : Nat} (hN : NewR M c c0 CI) (hcap : HCp c0 CI) (k : Nat) : ∃ u c1 M1, f_X11_asked (k + 405) 89 M = some (nI u, M1) ∧ AqB (wI (wI M 89 30 0) 89 43 0) c M1 c1 0 (sz t) 0 (sz t) ∧ u < c1 ∧ dR M1 u = x ∧ NewR M1 c1 c0 CI ∧ M1.2.2.1 89 30 = 0 ∧ M1.2.2.1 89 31 = M.2.2.1 89 31 ∧ Wt (TyR M1 c1) Hl.length (hF Hl) t 0 gN 0 x ∧ DpR M1 t 0 0 := by
  have hsco := hw.sco hH.1 t ht
  have hWa : Wd (wI (wI M 89 30 0) 89 43 0) := (hW.wI _ _ _).wI _ _ _
  have hI : AqI (wI (wI M 89 30 0) 89 43 0) c (rws t) Hl c0 CI t 0 0 gN := ⟨hWa, hT, hR, hH, Sb.self, hsco.1, hsco.2, Nat.le_refl _, by simp [up2_if]; rfl, by simp [up2_if], fun j hj => by omega, Or.inr ⟨hN, x, hw⟩⟩
  obtain ⟨v, c1, M1, e1, B1, B2, res⟩ := rq_main (l := rws t) (Hl := Hl) (c0 := c0) (CI := CI) hcap t ht (n := k + 403) (by omega) hI
  rw [Nat.zero_add] at B1
  have hty : ty (hF Hl) t 0 gN 0 = .inr x := ty_Wt t ht hw
  rcases res with ⟨e, -, g2, -⟩ | ⟨z, u, g1, rfl, g3, g4, g5, g6, -, g8, g9⟩
  · rw [hty] at g2; cases g2
  · rw [hty] at g1
    cases g1
    refine ⟨u, c1, M1, ?_, B1, g3, g4, B2 hN ⟨x, hw⟩, g5, g6.trans (by simp [up2_if]), g8, g9⟩
    obtain ⟨m, hm⟩ : ∃ m, m = k + 403 := ⟨_, rfl⟩
    rw [← hm] at e1
    have e2 : f_X11_proves (m + 1) 89 (wI M 89 30 0) = some (nI u, M1) := by
      have e1 : f_X11_asks m 89 0 (wI (wI M 89 30 0) 89 43 0) = some (nI u, M1) := e1
      show T_X11_proves_0 (fun v M => some (v, M)) none (m + 1) 89 (wI M 89 30 0) = _
      unfold T_X11_proves_0
      simp only [↓gd_pos (fO_R (hW.wI 89 30 0)), ↓bnd2_of (show cal (m + 1) (fun zz => f_X11_asks zz 89 0 (wI (wI M 89 30 0) 89 43 0)) = _ from e1)]
    obtain ⟨p, hp⟩ : ∃ p, p = m + 1 := ⟨_, rfl⟩
    rw [← hp] at e2
    rw [show k + 405 = p + 1 by omega]
    show T_X11_asked_0 (fun v M => some (v, M)) none (p + 1) 89 M = _
    unfold T_X11_asked_0
    simp only [↓gd_pos (fO_R hW), ↓bnd2_of (show cal (p + 1) (fun zz => f_X11_proves zz 89 (wI M 89 30 0)) = _ from e2)]
noncomputable abbrev lpS (q j E n : Nat) (M : Mem) : Option (Int32 × Mem) := lp (st_X11_steps (q + 1)) (254, [.ref 89, .int (nI j), .int (nI 6), .int (nI (j + 1)), .int (nI E), .int (nI n)], M)
theorem s254_one (hnm : ∀ nd, nd ∈ l → nmB nd) (m q : Nat) (hq : q = m + 1) {j e E I n p : Nat} {a b : Tm} (ha : isT a) (hS : Sb l p a) (hb : isT b) (hSb : Sb l (j + 1) b) (hIb : I = j + 1 + sz b) (hI : I ≤ E) (hE : E ≤ l.length) (he : e < 1000) (hn : n = 1 ∨ n = 2) {M : Mem} {l1 : List (Nat × Tm)} (h : NwS M c l l1) (h114 : M.2.2.1 114 j = nI e) (hin : ∀ M', Wd M' → WrkR M' c l → f_X11_inner q 89 (nI (j + 1)) (nI n) M' = some (nI p, M')) (hr : l1.length + (1 + sz a + (E - I)) ≤ 400) : ∃ M1, lpS q j E n M = lpS q j E (n + 1) M1 ∧ Fr SNw M M1 ∧ NwS M1 c l (l1 ++ ([(opl l j, lbl l j)] ++ rws a ++ rst l e I E)) := by
  have hW := h.1
  have hR := h.2.1
  have hl := hR.2.1
  have hleb := hSb.le
  have pb := sz_pos b hb
  have hj : j < l.length := by omega
  have hor := hR.2.2.1.at_ hj
  have hk := hR.kd hj
  obtain ⟨M1, y1, F1, N1⟩ := rx_writes h q (lb := lbl l j) (g := M.2.2.1 106 j) hor.1 hor.2 (hR.ag hj) (by omega)
  have y2 := hin M1 N1.1 N1.2.1
  have y3 := rx_behind N1.1 N1.2.1 m ha hS
  obtain ⟨M2, y4, F2, N2⟩ := rx_copyT hnm m hS rfl N1 (by simp; omega)
  have y5 := rx_behind N2.1 N2.2.1 m hb hSb
  rw [← hIb] at y5
  obtain ⟨M3, y6, F3, N3⟩ := rx_copies hnm m (i := I) (e := E) (lv := e) (w := 1) hE hI he N2 (by simp only [List.length_append, List.length_cons, List.length_nil, rws_len]; omega)
  rw [← hq] at y3 y4 y5 y6
  refine ⟨M3, ?_, (F1.trans F2).trans F3, ?_⟩
  · have hA5 := fA_R hW (a := 105) (by omega) (s_105 hW) (show j < 400 by omega) (by omega)
    have hA6 := fA_R hW (a := 106) (by omega) (s_106 hW) (show j < 400 by omega) (by omega)
    have hA14 := fA_R N2.1 (a := 114) (by omega) (s_114 N2.1) (show j < 400 by omega) (by omega)
    have g114 : M2.2.2.1 114 j = nI e := ((F1.trans F2).int (by unfold SNw; omega)).trans h114
    have hn3 : (3 : Int32) ≤ nI n ↔ False := ⟨fun z => by have := (nI_leI (a := 3) (by omega) (by omega)).mp z; omega, False.elim⟩
    unfold lpS
    refine (ge_X11_steps_254 (q + 1) 89 (nI j) (nI 6) (nI (j + 1)) (nI E) (nI n) M).trans ?_
    unfold T_X11_steps_254
    have y6' : f_X11_copies q 89 (nI I) (nI E) (nI e) 1 M2 = some ((), M3) := y6
    simp (disch := omega) only [propext hn3, ↓reduceIte, ↓gd_pos (fO_R hW), ↓bnd_of (r_89_20 hW), ↓gd_pos hA5, nI_z, hk, ↓bnd_of (r_89_21 hW), ↓gd_pos hA6, ↓bnd2_of (show cal (q + 1) (fun zz => f_X11_writes zz 89 (nI (opl l j - 1)) (M.2.2.1 106 j) M) = _ from y1), ↓gd_pos (fO_R N1.1), ↓bnd2_of (show cal (q + 1) (fun zz => f_X11_inner zz 89 (nI (j + 1)) (nI n) M1) = _ from y2), ↓bnd2_of (show cal (q + 1) (fun zz => f_X11_behind zz 89 (nI p) M1) = _ from y3), ↓bnd2_of (show cal (q + 1) (fun zz => f_X11_copies zz 89 (nI p) (nI (p + sz a)) 0 0 M1) = _ from y4), ↓gd_pos (fO_R N2.1), ↓bnd2_of (show cal (q + 1) (fun zz => f_X11_behind zz 89 (nI (j + 1)) M2) = _ from y5), ↓bnd_of (r_89_41 N2.1), ↓gd_pos hA14, g114, ↓bnd2_of (show cal (q + 1) (fun zz => f_X11_copies zz 89 (nI I) (nI E) (nI e) 1 M2) = _ from y6'), nI_1]
  · unfold rst
    simpa using N3
end RSP
