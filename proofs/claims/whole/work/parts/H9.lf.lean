/-! LINES in the reference: along the tree -/
section LF9
variable {M M0 M1 M2 M3 : Mem} {c n d p : Nat} {acc : List Ln} {l : List (Nat × Tm)} {tl : Nat → Fm} {cl : Nat → List Value → Mem → Option (Int32 × Mem)}
theorem lf_fun (hW : Wd M) (hR : WrkR M c l) (h43 : M.2.2.1 89 43 = nI p) (hp : p < l.length) (ho : opl l p = 2) (hd : d < 400) {i : Nat} (hi : M.2.2.1 106 p = nI i) {u v : Int32} (e1 : f_X11_line0 n 89 1 (nI i) (nI (d + 1)) (wI M 89 43 (nI (p + 1))) = some (u, M1)) (hW1 : Wd M1) (e2 : cl 0 [.ref 89, .int (nI (d + 1))] (wI M1 122 d u) = some (v, M2)) : lp (st_X11_linesFrom cl (n + 1)) (0, [.ref 89, .int (nI d)], M) = lp (st_X11_linesFrom cl (n + 1)) (210, [.ref 89, .int (nI d), .int (nI p), .int (nI (opl l p - 1)), .int u, .int v, .int (-1)], M2) := by
  have hl := hR.2.1
  have h5 := hR.kd hp
  have hA5 := fA_R hW (a := 105) (by omega) (s_105 hW) (show p < 400 by omega) (by omega)
  have hA6 := fA_R hW (a := 106) (by omega) (s_106 hW) (show p < 400 by omega) (by omega)
  have f22 := fA_R hW1 (a := 122) (by omega) (s_122 hW1) hd (by omega)
  have hz : (nI (opl l p - 1) = (0 : Int32)) = False := eq_false (by rw [ho]; decide)
  have h1 : (nI (opl l p - 1) = (1 : Int32)) = True := eq_true (by rw [ho]; rfl)
  obtain ⟨MA, hMA⟩ : ∃ MA, MA = wI M 89 43 (nI (p + 1)) := ⟨_, rfl⟩
  rw [← hMA] at e1
  refine (ge_X11_linesFrom_0 cl (n + 1) 89 (nI d) M).trans ?_
  unfold T_X11_linesFrom_0
  simp (disch := omega) only [↓gd_pos (fO_R hW), ↓bnd_of (r_89_20 hW), h43, ↓gd_pos hA5, nI_z, up2_if, Nat.reduceEqDiff, false_and, if_false, h5, hz, h1, ↓reduceIte, ↓bnd_of (r_89_55 hW), ↓bnd_of (r_89_21 hW), ↓gd_pos hA6, hi, nI_1, ← hMA, ↓bnd2_of (show cal (n + 1) (fun zz => f_X11_line0 zz 89 1 (nI i) (nI (d + 1)) MA) = _ from e1), ↓gd_pos f22, ↓gd_pos (fO_R hW1), ↓bnd_of (r_89_55 hW1), ↓bnd2_of e2, and_self, if_true]
theorem lf_one (hW : Wd M) (hR : WrkR M c l) (h43 : M.2.2.1 89 43 = nI p) (hp : p + 1 < l.length) (ho : opl l p ≠ 1) (ho2 : opl l p ≠ 2) (ho3 : opl l p ≠ 3) (ho4 : opl l p ≠ 4) {v : Int32} (e1 : cl 0 [.ref 89, .int (nI d)] (wI M 89 43 (nI (p + 1))) = some (v, M1)) : lp (st_X11_linesFrom cl (n + 1)) (0, [.ref 89, .int (nI d)], M) = lp (st_X11_linesFrom cl (n + 1)) (144, [.ref 89, .int (nI d), .int (nI p), .int (nI (opl l p - 1)), .int v, .int (-1), .int (-1), .int (M.2.2.1 113 (p + 1))], M1) := by
  have hl := hR.2.1
  have h5 := hR.kd (show p < l.length by omega)
  have hor := hR.2.2.1.at_ (show p < l.length by omega)
  have hA5 := fA_R hW (a := 105) (by omega) (s_105 hW) (show p < 400 by omega) (by omega)
  have hA3 := fA_R hW (a := 113) (by omega) (s_113 hW) (show p + 1 < 400 by omega) (by omega)
  have ne : ∀ k, k < 10 → opl l p ≠ k + 1 → (nI (opl l p - 1) = nI k) = False := fun k hk h => eq_false (fun z => by have := (nI_eq (by omega) (by omega)).mp z; omega)
  have hz : (nI (opl l p - 1) = (0 : Int32)) = False := ne 0 (by omega) (by omega)
  have h1 : (nI (opl l p - 1) = (1 : Int32)) = False := ne 1 (by omega) (by omega)
  have h2 : (nI (opl l p - 1) = (2 : Int32)) = False := ne 2 (by omega) (by omega)
  have h3 : (nI (opl l p - 1) = (3 : Int32)) = False := ne 3 (by omega) (by omega)
  obtain ⟨MA, hMA⟩ : ∃ MA, MA = wI M 89 43 (nI (p + 1)) := ⟨_, rfl⟩
  rw [← hMA] at e1
  refine (ge_X11_linesFrom_0 cl (n + 1) 89 (nI d) M).trans ?_
  unfold T_X11_linesFrom_0
  simp (disch := omega) only [↓gd_pos (fO_R hW), ↓bnd_of (r_89_20 hW), h43, ↓gd_pos hA5, nI_z, up2_if, Nat.reduceEqDiff, false_and, if_false, and_self, if_true, h5, hz, h1, ↓reduceIte, ↓bnd_of (r_89_40 hW), nI_1, gd_pos hA3, ← hMA, ↓bnd2_of e1, h2, h3]
theorem lf_two (hW : Wd M) (hR : WrkR M c l) (h43 : M.2.2.1 89 43 = nI p) (hp : p + 1 < l.length) (ho : opl l p = 3 ∨ opl l p = 4) {v w : Int32} (e1 : cl 0 [.ref 89, .int (nI d)] (wI M 89 43 (nI (p + 1))) = some (v, M1)) (hW1 : Wd M1) (e2 : cl 0 [.ref 89, .int (nI d)] M1 = some (w, M2)) : lp (st_X11_linesFrom cl (n + 1)) (0, [.ref 89, .int (nI d)], M) = lp (st_X11_linesFrom cl (n + 1)) (144, [.ref 89, .int (nI d), .int (nI p), .int (nI (opl l p - 1)), .int v, .int w, .int (-1), .int (M.2.2.1 113 (p + 1))], M2) := by
  have hl := hR.2.1
  have h5 := hR.kd (show p < l.length by omega)
  have hor := hR.2.2.1.at_ (show p < l.length by omega)
  have hA5 := fA_R hW (a := 105) (by omega) (s_105 hW) (show p < 400 by omega) (by omega)
  have hA3 := fA_R hW (a := 113) (by omega) (s_113 hW) (show p + 1 < 400 by omega) (by omega)
  have ne : ∀ k, k < 10 → opl l p ≠ k + 1 → (nI (opl l p - 1) = nI k) = False := fun k hk h => eq_false (fun z => by have := (nI_eq (by omega) (by omega)).mp z; omega)
  have hz : (nI (opl l p - 1) = (0 : Int32)) = False := ne 0 (by omega) (by omega)
  have h1 : (nI (opl l p - 1) = (1 : Int32)) = False := ne 1 (by omega) (by omega)
  obtain ⟨MA, hMA⟩ : ∃ MA, MA = wI M 89 43 (nI (p + 1)) := ⟨_, rfl⟩
  rw [← hMA] at e1
  refine (ge_X11_linesFrom_0 cl (n + 1) 89 (nI d) M).trans ?_
  unfold T_X11_linesFrom_0
  rcases ho with ho | ho
  · have h2 : (nI (opl l p - 1) = (2 : Int32)) = True := eq_true (by rw [ho]; rfl)
    simp (disch := omega) only [↓gd_pos (fO_R hW), ↓bnd_of (r_89_20 hW), h43, ↓gd_pos hA5, nI_z, up2_if, Nat.reduceEqDiff, false_and, if_false, and_self, if_true, h5, hz, h1, ↓reduceIte, ↓bnd_of (r_89_40 hW), nI_1, gd_pos hA3, ← hMA, ↓bnd2_of e1, h2, ↓gd_pos (fO_R hW1), ↓bnd2_of e2]
  · have h2 : (nI (opl l p - 1) = (2 : Int32)) = False := ne 2 (by omega) (by omega)
    have h3 : (nI (opl l p - 1) = (3 : Int32)) = True := eq_true (by rw [ho]; rfl)
    simp (disch := omega) only [↓gd_pos (fO_R hW), ↓bnd_of (r_89_20 hW), h43, ↓gd_pos hA5, nI_z, up2_if, Nat.reduceEqDiff, false_and, if_false, and_self, if_true, h5, hz, h1, ↓reduceIte, ↓bnd_of (r_89_40 hW), nI_1, gd_pos hA3, ← hMA, ↓bnd2_of e1, h2, h3, ↓gd_pos (fO_R hW1), ↓bnd2_of e2]
theorem lf_144 {o : Nat} (ho : o ≠ 9) (h1 : 1 ≤ o) (h10 : o ≤ 10) {a b e x : Int32} : lp (st_X11_linesFrom cl (n + 1)) (144, [.ref 89, .int (nI d), .int (nI p), .int (nI (o - 1)), .int a, .int b, .int e, .int x], M) = lp (st_X11_linesFrom cl (n + 1)) (210, [.ref 89, .int (nI d), .int (nI p), .int (nI (o - 1)), .int a, .int b, .int e], M) := by
  refine (ge_X11_linesFrom_144 cl (n + 1) 89 (nI d) (nI p) (nI (o - 1)) a b e x M).trans ?_
  unfold T_X11_linesFrom_144
  have h8 : (nI (o - 1) = (8 : Int32)) = False := eq_false (fun z => by have := (nI_eq (b := 8) (by omega) (by omega)).mp z; omega)
  simp only [h8, ↓reduceIte]
theorem lf_144c {a b e : Int32} {M4 : Mem} {x i j : Nat} (hx : x < 16384) (hd : d < 400) (hW : Wd M) (hW1 : Wd M1) (hW2 : Wd M2) (hW3 : Wd M3) (hi : M.2.2.1 91 x = nI i) (hj : M2.2.2.1 92 x = nI j) {u v u2 v2 : Int32} (e1 : f_X11_line0 n 89 1 (nI i) (nI (d + 1)) M = some (u, M1)) (e2 : cl 0 [.ref 89, .int (nI (d + 1))] (wI M1 122 d u) = some (v, M2)) (e3 : f_X11_line0 n 89 1 (nI j) (nI (d + 1)) M2 = some (u2, M3)) (e4 : cl 0 [.ref 89, .int (nI (d + 1))] (wI M3 122 d u2) = some (v2, M4)) : lp (st_X11_linesFrom cl (n + 1)) (144, [.ref 89, .int (nI d), .int (nI p), .int (nI (9 - 1)), .int a, .int b, .int e, .int (nI x)], M) = lp (st_X11_linesFrom cl (n + 1)) (210, [.ref 89, .int (nI d), .int (nI p), .int (nI (9 - 1)), .int a, .int v, .int v2], M4) := by
  refine (ge_X11_linesFrom_144 cl (n + 1) 89 (nI d) (nI p) (nI (9 - 1)) a b e (nI x) M).trans ?_
  unfold T_X11_linesFrom_144
  have h8 : (nI (9 - 1) = (8 : Int32)) = True := eq_true rfl
  have f91 := fA_R hW (a := 91) (by omega) (s_91 hW) hx (by omega)
  have f92 := fA_R hW2 (a := 92) (by omega) (s_92 hW2) hx (by omega)
  have g1 := fA_R hW1 (a := 122) (by omega) (s_122 hW1) hd (by omega)
  have g3 := fA_R hW3 (a := 122) (by omega) (s_122 hW3) hd (by omega)
  simp (disch := omega) only [h8, ↓reduceIte, ↓gd_pos (fO_R hW), ↓bnd_of (r_89_55 hW), ↓bnd_of (r_89_2 hW), ↓gd_pos f91, nI_z, hi, nI_1, ↓bnd2_of (show cal (n + 1) (fun zz => f_X11_line0 zz 89 1 (nI i) (nI (d + 1)) M) = _ from e1), ↓gd_pos g1, ↓gd_pos (fO_R hW1), ↓bnd2_of e2, ↓gd_pos (fO_R hW2), ↓bnd_of (r_89_55 hW2), ↓bnd_of (r_89_3 hW2), ↓gd_pos f92, hj, ↓bnd2_of (show cal (n + 1) (fun zz => f_X11_line0 zz 89 1 (nI j) (nI (d + 1)) M2) = _ from e3), ↓gd_pos g3, ↓gd_pos (fO_R hW3), ↓bnd2_of e4]
end LF9
