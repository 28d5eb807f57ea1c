/-! WHAT A NODE PROVES in the reference: abort, app, pair, case -/
section RQ
variable {M M1 M2 M3 : Mem} {c : Nat} {l : List (Nat × Tm)} {n p d : Nat}
theorem rp_abort (hW : Wd M) (hR : WrkR M c l) (hp : p < l.length) (ho : opl l p = 10) {v : Int32} (hk : f_X11_asks (n + 1) 89 (nI d) M = some (v, M1)) (hW1 : Wd M1) (ek1 : M1.2.2.1 105 p = M.2.2.1 105 p) (hat : M.2.2.1 89 43 = nI (p + 1)) : (¬ M1.2.2.1 89 30 = 0 → f_X11_provenBy (n + 2) 89 (nI p) (nI d) M = some (0, M1)) ∧ ∀ u, u < 16384 → v = nI u → M1.2.2.1 89 30 = 0 → (M1.2.2.1 90 u = 8 → f_X11_provenBy (n + 2) 89 (nI p) (nI d) M = some (M1.2.2.1 106 p, M1)) ∧ (p + 1 < 400 → ¬ M1.2.2.1 90 u = 8 → f_X11_provenBy (n + 2) 89 (nI p) (nI d) M = some (0, flM M1 (p + 1))) := by
  have h4 := hR.2.1
  have z1 : (nI p).toNatClampNeg = p := nI_z (by omega)
  have hO := fO_R hW
  have hO1 := fO_R hW1
  have hA := fA_R hW (a := 105) (by omega) (s_105 hW) (show p < 400 by omega) (by omega)
  have hA1 := fA_R hW1 (a := 105) (by omega) (s_105 hW1) (show p < 400 by omega) (by omega)
  have hB1 := fA_R hW1 (a := 106) (by omega) (s_106 hW1) (show p < 400 by omega) (by omega)
  have ek := hR.kd hp
  rw [ho] at ek
  have ek2 := ek1.trans ek
  obtain ⟨m, hm⟩ : ∃ m, m = n + 1 := ⟨_, rfl⟩
  rw [← hm] at hk
  rw [show n + 2 = m + 1 by omega, prov_eq]
  have E : r_X11_asks m 0 [.ref 89, .int (nI d)] M = some (v, M1) := hk
  refine ⟨fun h0 => ?_, fun u hu hv h0 => ⟨fun h10 => ?_, fun h4 h10 => ?_⟩⟩
  · have en := (rx_isNot (v := 0) (i := p + 1) (x := v) (kd := 8) hW1 n).1 h0
    rw [← hm, ← hat] at en
    unfold T_X11_provenBy_0
    simp (disch := omega) only [↓reduceIte, ↓gd_pos hO, ↓gd_pos hO1, ↓bnd_of (r_89_20 hW), ↓bnd_of (r_89_20 hW1), ↓gd_pos hA, ↓gd_pos hA1, z1, ek, ek2, show (nI (10 - 1) = (0 : Int32)) = False from eq_false (by decide), show (nI (10 - 1) = (1 : Int32)) = False from eq_false (by decide), show (nI (10 - 1) = (2 : Int32)) = False from eq_false (by decide), show (nI (10 - 1) = (3 : Int32)) = False from eq_false (by decide), show (nI (10 - 1) = (4 : Int32)) = False from eq_false (by decide), show (nI (10 - 1) = (5 : Int32)) = False from eq_false (by decide), show (nI (10 - 1) = (6 : Int32)) = False from eq_false (by decide), show (nI (10 - 1) = (7 : Int32)) = False from eq_false (by decide), show (nI (10 - 1) = (8 : Int32)) = False from eq_false (by decide), ↓bnd2_of E, ↓bnd2_of (show cal (m + 1) (fun n => f_X11_isNot n 89 v 8 (M.2.2.1 89 43) M1) = _ from en), show ((1 : Int32) = 0) = False from eq_false (by decide)]
  · have en := (rx_isNot (v := u) (i := p + 1) (x := v) (kd := 8) hW1 n).2.1 h0 hv hu h10
    rw [← hm, ← hat] at en
    unfold T_X11_provenBy_0
    simp (disch := omega) only [↓reduceIte, ↓gd_pos hO, ↓gd_pos hO1, ↓bnd_of (r_89_20 hW), ↓bnd_of (r_89_20 hW1), ↓bnd_of (r_89_21 hW1), ↓gd_pos hA, ↓gd_pos hA1, ↓gd_pos hB1, z1, ek, ek2, show (nI (10 - 1) = (0 : Int32)) = False from eq_false (by decide), show (nI (10 - 1) = (1 : Int32)) = False from eq_false (by decide), show (nI (10 - 1) = (2 : Int32)) = False from eq_false (by decide), show (nI (10 - 1) = (3 : Int32)) = False from eq_false (by decide), show (nI (10 - 1) = (4 : Int32)) = False from eq_false (by decide), show (nI (10 - 1) = (5 : Int32)) = False from eq_false (by decide), show (nI (10 - 1) = (6 : Int32)) = False from eq_false (by decide), show (nI (10 - 1) = (7 : Int32)) = False from eq_false (by decide), show (nI (10 - 1) = (8 : Int32)) = False from eq_false (by decide), ↓bnd2_of E, ↓bnd2_of (show cal (m + 1) (fun n => f_X11_isNot n 89 v 8 (M.2.2.1 89 43) M1) = _ from en)]
  · have en := (rx_isNot (v := u) (i := p + 1) (x := v) (kd := 8) hW1 n).2.2 h0 hv hu h4 h10
    rw [← hm, ← hat] at en
    unfold T_X11_provenBy_0
    simp (disch := omega) only [↓reduceIte, ↓gd_pos hO, ↓gd_pos hO1, ↓bnd_of (r_89_20 hW), ↓bnd_of (r_89_20 hW1), ↓gd_pos hA, ↓gd_pos hA1, z1, ek, ek2, show (nI (10 - 1) = (0 : Int32)) = False from eq_false (by decide), show (nI (10 - 1) = (1 : Int32)) = False from eq_false (by decide), show (nI (10 - 1) = (2 : Int32)) = False from eq_false (by decide), show (nI (10 - 1) = (3 : Int32)) = False from eq_false (by decide), show (nI (10 - 1) = (4 : Int32)) = False from eq_false (by decide), show (nI (10 - 1) = (5 : Int32)) = False from eq_false (by decide), show (nI (10 - 1) = (6 : Int32)) = False from eq_false (by decide), show (nI (10 - 1) = (7 : Int32)) = False from eq_false (by decide), show (nI (10 - 1) = (8 : Int32)) = False from eq_false (by decide), ↓bnd2_of E, ↓bnd2_of (show cal (m + 1) (fun n => f_X11_isNot n 89 v 8 (M.2.2.1 89 43) M1) = _ from en), show ((1 : Int32) = 0) = False from eq_false (by decide)]
theorem rp_pair (hW : Wd M) (hR : WrkR M c l) (hp : p < l.length) (ho : opl l p = 4) {v u : Int32} (hk : f_X11_asks n 89 (nI d) M = some (v, M1)) (hW1 : Wd M1) (ek1 : M1.2.2.1 105 p = M.2.2.1 105 p) (hk2 : f_X11_asks n 89 (nI d) M1 = some (u, M2)) (hW2 : Wd M2) : (¬ M2.2.2.1 89 30 = 0 → f_X11_provenBy (n + 1) 89 (nI p) (nI d) M = some (0, M2)) ∧ (M2.2.2.1 89 30 = 0 → ∀ w, f_X11_formula n 89 10 v u M2 = some (w, M3) → f_X11_provenBy (n + 1) 89 (nI p) (nI d) M = some (w, M3)) := by
  have h4 := hR.2.1
  have z1 : (nI p).toNatClampNeg = p := nI_z (by omega)
  have hO := fO_R hW
  have hO1 := fO_R hW1
  have hO2 := fO_R hW2
  have hA := fA_R hW (a := 105) (by omega) (s_105 hW) (show p < 400 by omega) (by omega)
  have hA1 := fA_R hW1 (a := 105) (by omega) (s_105 hW1) (show p < 400 by omega) (by omega)
  have ek := hR.kd hp
  rw [ho] at ek
  have ek2 := ek1.trans ek
  have E : r_X11_asks n 0 [.ref 89, .int (nI d)] M = some (v, M1) := hk
  have E2 : r_X11_asks n 0 [.ref 89, .int (nI d)] M1 = some (u, M2) := hk2
  rw [prov_eq]
  constructor
  · intro h0
    unfold T_X11_provenBy_0
    simp (disch := omega) only [↓reduceIte, ↓gd_pos hO, ↓gd_pos hO1, ↓gd_pos hO2, ↓bnd_of (r_89_20 hW), ↓bnd_of (r_89_20 hW1), ↓gd_pos hA, ↓gd_pos hA1, z1, ek, ek2, show (nI (4 - 1) = (0 : Int32)) = False from eq_false (by decide), show (nI (4 - 1) = (1 : Int32)) = False from eq_false (by decide), show (nI (4 - 1) = (2 : Int32)) = False from eq_false (by decide), show (nI (4 - 1) = (3 : Int32)) = True from eq_true rfl, ↓bnd2_of E, ↓bnd2_of E2, h0]
  · intro h0 w hf
    unfold T_X11_provenBy_0
    simp (disch := omega) only [↓reduceIte, ↓gd_pos hO, ↓gd_pos hO1, ↓gd_pos hO2, ↓bnd_of (r_89_20 hW), ↓bnd_of (r_89_20 hW1), ↓gd_pos hA, ↓gd_pos hA1, z1, ek, ek2, show (nI (4 - 1) = (0 : Int32)) = False from eq_false (by decide), show (nI (4 - 1) = (1 : Int32)) = False from eq_false (by decide), show (nI (4 - 1) = (2 : Int32)) = False from eq_false (by decide), show (nI (4 - 1) = (3 : Int32)) = True from eq_true rfl, ↓bnd2_of E, ↓bnd2_of E2, h0, ↓bnd2_of (show cal (n + 1) (fun n => f_X11_formula n 89 10 v u M2) = _ from hf)]
theorem rp_app (hW : Wd M) (hR : WrkR M c l) (hp : p < l.length) (ho : opl l p = 3) {v u : Int32} {q : Nat} (hk : f_X11_asks (n + 1) 89 (nI d) M = some (v, M1)) (hW1 : Wd M1) (ek1 : M1.2.2.1 105 p = M.2.2.1 105 p) (hk2 : f_X11_asks (n + 1) 89 (nI d) M1 = some (u, M2)) (hW2 : Wd M2) (hat : M.2.2.1 89 43 = nI (p + 1)) : (¬ M2.2.2.1 89 30 = 0 → f_X11_provenBy (n + 2) 89 (nI p) (nI d) M = some (0, M2)) ∧ ∀ i, i < 16384 → v = nI i → M2.2.2.1 89 30 = 0 → (p + 1 < 400 → ¬ M2.2.2.1 90 i = 9 → f_X11_provenBy (n + 2) 89 (nI p) (nI d) M = some (0, flM M2 (p + 1))) ∧ (M2.2.2.1 90 i = 9 → M2.2.2.1 91 i = u → f_X11_provenBy (n + 2) 89 (nI p) (nI d) M = some (M2.2.2.1 92 i, M2)) ∧ (M2.2.2.1 90 i = 9 → ¬ M2.2.2.1 91 i = u → M1.2.2.1 89 43 = nI q → q < 400 → f_X11_provenBy (n + 2) 89 (nI p) (nI d) M = some ((flM M2 q).2.2.1 92 i, flM M2 q)) := by
  have h4 := hR.2.1
  have z1 : (nI p).toNatClampNeg = p := nI_z (by omega)
  have hO := fO_R hW
  have hO1 := fO_R hW1
  have hO2 := fO_R hW2
  have hA := fA_R hW (a := 105) (by omega) (s_105 hW) (show p < 400 by omega) (by omega)
  have hA1 := fA_R hW1 (a := 105) (by omega) (s_105 hW1) (show p < 400 by omega) (by omega)
  have ek := hR.kd hp
  rw [ho] at ek
  have ek2 := ek1.trans ek
  obtain ⟨m, hm⟩ : ∃ m, m = n + 1 := ⟨_, rfl⟩
  rw [← hm] at hk hk2
  rw [show n + 2 = m + 1 by omega, prov_eq]
  have E : r_X11_asks m 0 [.ref 89, .int (nI d)] M = some (v, M1) := hk
  have E2 : r_X11_asks m 0 [.ref 89, .int (nI d)] M1 = some (u, M2) := hk2
  refine ⟨fun h0 => ?_, fun i hi hv h0 => ⟨fun h4 h9 => ?_, fun h9 hl => ?_, fun h9 hl hq hq4 => ?_⟩⟩
  · have en := (rx_isNot (v := 0) (i := p + 1) (x := v) (kd := 9) hW2 n).1 h0
    rw [← hm, ← hat] at en
    unfold T_X11_provenBy_0
    simp (disch := omega) only [↓reduceIte, ↓gd_pos hO, ↓gd_pos hO1, ↓gd_pos hO2, ↓bnd_of (r_89_20 hW), ↓bnd_of (r_89_20 hW1), ↓gd_pos hA, ↓gd_pos hA1, z1, ek, ek2, show (nI (3 - 1) = (0 : Int32)) = False from eq_false (by decide), show (nI (3 - 1) = (1 : Int32)) = False from eq_false (by decide), show (nI (3 - 1) = (2 : Int32)) = True from eq_true rfl, ↓bnd2_of E, ↓bnd2_of E2, ↓bnd2_of (show cal (m + 1) (fun n => f_X11_isNot n 89 v 9 (M.2.2.1 89 43) M2) = _ from en), show ((1 : Int32) = 0) = False from eq_false (by decide)]
  · have en := (rx_isNot (v := i) (i := p + 1) (x := v) (kd := 9) hW2 n).2.2 h0 hv hi h4 h9
    rw [← hm, ← hat] at en
    unfold T_X11_provenBy_0
    simp (disch := omega) only [↓reduceIte, ↓gd_pos hO, ↓gd_pos hO1, ↓gd_pos hO2, ↓bnd_of (r_89_20 hW), ↓bnd_of (r_89_20 hW1), ↓gd_pos hA, ↓gd_pos hA1, z1, ek, ek2, show (nI (3 - 1) = (0 : Int32)) = False from eq_false (by decide), show (nI (3 - 1) = (1 : Int32)) = False from eq_false (by decide), show (nI (3 - 1) = (2 : Int32)) = True from eq_true rfl, ↓bnd2_of E, ↓bnd2_of E2, ↓bnd2_of (show cal (m + 1) (fun n => f_X11_isNot n 89 v 9 (M.2.2.1 89 43) M2) = _ from en), show ((1 : Int32) = 0) = False from eq_false (by decide)]
  · have en := (rx_isNot (v := i) (i := p + 1) (x := v) (kd := 9) hW2 n).2.1 h0 hv hi h9
    rw [← hm, ← hat] at en
    have hD1 := fA_R hW2 (a := 91) (by omega) (s_91 hW2) hi (by omega)
    have hD2 := fA_R hW2 (a := 92) (by omega) (s_92 hW2) hi (by omega)
    rw [← hv] at hD1 hD2
    have zv : v.toNatClampNeg = i := by rw [hv]; exact nI_z (by omega)
    unfold T_X11_provenBy_0
    simp (disch := omega) only [↓reduceIte, ↓gd_pos hO, ↓gd_pos hO1, ↓gd_pos hO2, ↓bnd_of (r_89_20 hW), ↓bnd_of (r_89_20 hW1), ↓gd_pos hA, ↓gd_pos hA1, z1, ek, ek2, show (nI (3 - 1) = (0 : Int32)) = False from eq_false (by decide), show (nI (3 - 1) = (1 : Int32)) = False from eq_false (by decide), show (nI (3 - 1) = (2 : Int32)) = True from eq_true rfl, ↓bnd2_of E, ↓bnd2_of E2, ↓bnd2_of (show cal (m + 1) (fun n => f_X11_isNot n 89 v 9 (M.2.2.1 89 43) M2) = _ from en), ↓bnd_of (r_89_2 hW2), ↓bnd_of (r_89_3 hW2), ↓gd_pos hD1, ↓gd_pos hD2, zv, hl]
  · have en := (rx_isNot (v := i) (i := p + 1) (x := v) (kd := 9) hW2 n).2.1 h0 hv hi h9
    rw [← hm, ← hat] at en
    have hD1 := fA_R hW2 (a := 91) (by omega) (s_91 hW2) hi (by omega)
    have hW3 : Wd (flM M2 q) := (hW2.wI _ _ _).wI _ _ _
    have hO3 := fO_R hW3
    have hD2 := fA_R hW3 (a := 92) (by omega) (s_92 hW3) hi (by omega)
    have hG := fA_R hW2 (a := 110) (by omega) (s_110 hW2) hq4 (by omega)
    rw [← hv] at hD1 hD2
    rw [← hq] at hG
    have zv : v.toNatClampNeg = i := by rw [hv]; exact nI_z (by omega)
    have ef := (rx_fails hW2 m 5 (M2.2.2.1 110 q)).1 h0
    have E3 : cal (m + 1) (fun n => f_X11_fails n 89 5 (M2.2.2.1 110 ((M1.2.2.1 89 43).toNatClampNeg)) M2) = some ((), flM M2 q) := by
      rw [cal_s, hq, nI_z (by omega)]
      exact ef
    unfold T_X11_provenBy_0
    simp (disch := omega) only [↓reduceIte, ↓gd_pos hO, ↓gd_pos hO1, ↓gd_pos hO2, ↓gd_pos hO3, ↓bnd_of (r_89_20 hW), ↓bnd_of (r_89_20 hW1), ↓gd_pos hA, ↓gd_pos hA1, z1, ek, ek2, show (nI (3 - 1) = (0 : Int32)) = False from eq_false (by decide), show (nI (3 - 1) = (1 : Int32)) = False from eq_false (by decide), show (nI (3 - 1) = (2 : Int32)) = True from eq_true rfl, ↓bnd2_of E, ↓bnd2_of E2, ↓bnd2_of (show cal (m + 1) (fun n => f_X11_isNot n 89 v 9 (M.2.2.1 89 43) M2) = _ from en), ↓bnd_of (r_89_2 hW2), ↓bnd_of (r_89_36 hW2), ↓bnd_of (r_89_3 hW3), ↓gd_pos hD1, ↓gd_pos hD2, ↓gd_pos hG, zv, hl, ↓bnd2_of E3]
theorem rp_case1 (hW : Wd M) (hR : WrkR M c l) (hp : p < l.length) (ho : opl l p = 9) {v : Int32} (hk : f_X11_asks (n + 1) 89 (nI d) M = some (v, M1)) (hW1 : Wd M1) (ek1 : M1.2.2.1 105 p = M.2.2.1 105 p) (hat : M.2.2.1 89 43 = nI (p + 1)) : (¬ M1.2.2.1 89 30 = 0 → f_X11_provenBy (n + 2) 89 (nI p) (nI d) M = some (0, M1)) ∧ ∀ u, u < 16384 → v = nI u → M1.2.2.1 89 30 = 0 → p + 1 < 400 → ¬ M1.2.2.1 90 u = 11 → f_X11_provenBy (n + 2) 89 (nI p) (nI d) M = some (0, flM M1 (p + 1)) := by
  have h4 := hR.2.1
  have z1 : (nI p).toNatClampNeg = p := nI_z (by omega)
  have hO := fO_R hW
  have hO1 := fO_R hW1
  have hA := fA_R hW (a := 105) (by omega) (s_105 hW) (show p < 400 by omega) (by omega)
  have hA1 := fA_R hW1 (a := 105) (by omega) (s_105 hW1) (show p < 400 by omega) (by omega)
  have ek := hR.kd hp
  rw [ho] at ek
  have ek2 := ek1.trans ek
  obtain ⟨m, hm⟩ : ∃ m, m = n + 1 := ⟨_, rfl⟩
  rw [← hm] at hk
  rw [show n + 2 = m + 1 by omega, prov_eq]
  have E : r_X11_asks m 0 [.ref 89, .int (nI d)] M = some (v, M1) := hk
  refine ⟨fun h0 => ?_, fun u hu hv h0 h4 h10 => ?_⟩
  · have en := (rx_isNot (v := 0) (i := p + 1) (x := v) (kd := 11) hW1 n).1 h0
    rw [← hm, ← hat] at en
    unfold T_X11_provenBy_0
    simp (disch := omega) only [↓reduceIte, ↓gd_pos hO, ↓gd_pos hO1, ↓bnd_of (r_89_20 hW), ↓bnd_of (r_89_20 hW1), ↓gd_pos hA, ↓gd_pos hA1, z1, ek, ek2, show (nI (9 - 1) = (0 : Int32)) = False from eq_false (by decide), show (nI (9 - 1) = (1 : Int32)) = False from eq_false (by decide), show (nI (9 - 1) = (2 : Int32)) = False from eq_false (by decide), show (nI (9 - 1) = (3 : Int32)) = False from eq_false (by decide), show (nI (9 - 1) = (4 : Int32)) = False from eq_false (by decide), show (nI (9 - 1) = (5 : Int32)) = False from eq_false (by decide), show (nI (9 - 1) = (6 : Int32)) = False from eq_false (by decide), show (nI (9 - 1) = (7 : Int32)) = False from eq_false (by decide), show (nI (9 - 1) = (8 : Int32)) = True from eq_true rfl, ↓bnd2_of E, ↓bnd2_of (show cal (m + 1) (fun n => f_X11_isNot n 89 v 11 (M.2.2.1 89 43) M1) = _ from en), show ((1 : Int32) = 0) = False from eq_false (by decide)]
  · have en := (rx_isNot (v := u) (i := p + 1) (x := v) (kd := 11) hW1 n).2.2 h0 hv hu h4 h10
    rw [← hm, ← hat] at en
    unfold T_X11_provenBy_0
    simp (disch := omega) only [↓reduceIte, ↓gd_pos hO, ↓gd_pos hO1, ↓bnd_of (r_89_20 hW), ↓bnd_of (r_89_20 hW1), ↓gd_pos hA, ↓gd_pos hA1, z1, ek, ek2, show (nI (9 - 1) = (0 : Int32)) = False from eq_false (by decide), show (nI (9 - 1) = (1 : Int32)) = False from eq_false (by decide), show (nI (9 - 1) = (2 : Int32)) = False from eq_false (by decide), show (nI (9 - 1) = (3 : Int32)) = False from eq_false (by decide), show (nI (9 - 1) = (4 : Int32)) = False from eq_false (by decide), show (nI (9 - 1) = (5 : Int32)) = False from eq_false (by decide), show (nI (9 - 1) = (6 : Int32)) = False from eq_false (by decide), show (nI (9 - 1) = (7 : Int32)) = False from eq_false (by decide), show (nI (9 - 1) = (8 : Int32)) = True from eq_true rfl, ↓bnd2_of E, ↓bnd2_of (show cal (m + 1) (fun n => f_X11_isNot n 89 v 11 (M.2.2.1 89 43) M1) = _ from en), show ((1 : Int32) = 0) = False from eq_false (by decide)]
theorem rp_case2 (hW : Wd M) (hR : WrkR M c l) (hp : p < l.length) (ho : opl l p = 9) {v u w : Int32} {i q : Nat} (hd : d < 400) (hk : f_X11_asks (n + 1) 89 (nI d) M = some (v, M1)) (hW1 : Wd M1) (ek1 : M1.2.2.1 105 p = M.2.2.1 105 p) (hat : M.2.2.1 89 43 = nI (p + 1)) (hi : i < 16384) (hv : v = nI i) (h0 : M1.2.2.1 89 30 = 0) (h11 : M1.2.2.1 90 i = 11) (hk2 : f_X11_asks (n + 1) 89 (nI (d + 1)) (wI M1 115 d (M1.2.2.1 91 i)) = some (u, M2)) (hW2 : Wd M2) (hk3 : f_X11_asks (n + 1) 89 (nI (d + 1)) (wI M2 115 d (M2.2.2.1 92 i)) = some (w, M3)) (hW3 : Wd M3) : (¬ M3.2.2.1 89 30 = 0 ∨ u = w → f_X11_provenBy (n + 2) 89 (nI p) (nI d) M = some (u, M3)) ∧ (M3.2.2.1 89 30 = 0 → ¬ u = w → M2.2.2.1 89 43 = nI q → q < 400 → f_X11_provenBy (n + 2) 89 (nI p) (nI d) M = some (u, flM M3 q)) := by
  have h4 := hR.2.1
  have z1 : (nI p).toNatClampNeg = p := nI_z (by omega)
  have z2 : (nI d).toNatClampNeg = d := nI_z (by omega)
  have zv : v.toNatClampNeg = i := by rw [hv]; exact nI_z (by omega)
  have hO := fO_R hW
  have hO1 := fO_R hW1
  have hO2 := fO_R hW2
  have hO3 := fO_R hW3
  have hA := fA_R hW (a := 105) (by omega) (s_105 hW) (show p < 400 by omega) (by omega)
  have hA1 := fA_R hW1 (a := 105) (by omega) (s_105 hW1) (show p < 400 by omega) (by omega)
  have hC1 := fA_R hW1 (a := 115) (by omega) (s_115 hW1) hd (by omega)
  have hC2 := fA_R hW2 (a := 115) (by omega) (s_115 hW2) hd (by omega)
  have hD1 := fA_R hW1 (a := 91) (by omega) (s_91 hW1) hi (by omega)
  have hD2 := fA_R hW2 (a := 92) (by omega) (s_92 hW2) hi (by omega)
  rw [← hv] at hD1 hD2
  have ek := hR.kd hp
  rw [ho] at ek
  have ek2 := ek1.trans ek
  have en := (rx_isNot (v := i) (i := p + 1) (x := v) (kd := 11) hW1 n).2.1 h0 hv hi h11
  obtain ⟨m, hm⟩ : ∃ m, m = n + 1 := ⟨_, rfl⟩
  rw [← hm] at hk hk2 hk3
  rw [← hm, ← hat] at en
  rw [show n + 2 = m + 1 by omega, prov_eq]
  have E : r_X11_asks m 0 [.ref 89, .int (nI d)] M = some (v, M1) := hk
  have E2 : r_X11_asks m 0 [.ref 89, .int (nI d + 1)] (wI M1 115 ((nI d).toNatClampNeg) (M1.2.2.1 91 (v.toNatClampNeg))) = some (u, M2) := by
    rw [z2, zv, nI_1]
    exact hk2
  have E3 : r_X11_asks m 0 [.ref 89, .int (nI d + 1)] (wI M2 115 ((nI d).toNatClampNeg) (M2.2.2.1 92 (v.toNatClampNeg))) = some (w, M3) := by
    rw [z2, zv, nI_1]
    exact hk3
  refine ⟨fun h => ?_, fun h3 hne hq hq4 => ?_⟩
  · by_cases h3 : M3.2.2.1 89 30 = 0
    · have huw : u = w := h.resolve_left (fun q => q h3)
      unfold T_X11_provenBy_0
      simp (disch := omega) only [↓reduceIte, ↓gd_pos hO, ↓gd_pos hO1, ↓gd_pos hO2, ↓gd_pos hO3, ↓bnd_of (r_89_20 hW), ↓bnd_of (r_89_20 hW1), ↓gd_pos hA, ↓gd_pos hA1, z1, ek, ek2, show (nI (9 - 1) = (0 : Int32)) = False from eq_false (by decide), show (nI (9 - 1) = (1 : Int32)) = False from eq_false (by decide), show (nI (9 - 1) = (2 : Int32)) = False from eq_false (by decide), show (nI (9 - 1) = (3 : Int32)) = False from eq_false (by decide), show (nI (9 - 1) = (4 : Int32)) = False from eq_false (by decide), show (nI (9 - 1) = (5 : Int32)) = False from eq_false (by decide), show (nI (9 - 1) = (6 : Int32)) = False from eq_false (by decide), show (nI (9 - 1) = (7 : Int32)) = False from eq_false (by decide), show (nI (9 - 1) = (8 : Int32)) = True from eq_true rfl, ↓bnd2_of E, ↓bnd2_of (show cal (m + 1) (fun n => f_X11_isNot n 89 v 11 (M.2.2.1 89 43) M1) = _ from en), ↓bnd_of (r_89_42 hW1), ↓bnd_of (r_89_2 hW1), ↓gd_pos hD1, ↓gd_pos hC1, ↓bnd2_of E2, ↓bnd_of (r_89_42 hW2), ↓bnd_of (r_89_3 hW2), ↓gd_pos hD2, ↓gd_pos hC2, ↓bnd2_of E3, h3, huw]
    · unfold T_X11_provenBy_0
      simp (disch := omega) only [↓reduceIte, ↓gd_pos hO, ↓gd_pos hO1, ↓gd_pos hO2, ↓gd_pos hO3, ↓bnd_of (r_89_20 hW), ↓bnd_of (r_89_20 hW1), ↓gd_pos hA, ↓gd_pos hA1, z1, ek, ek2, show (nI (9 - 1) = (0 : Int32)) = False from eq_false (by decide), show (nI (9 - 1) = (1 : Int32)) = False from eq_false (by decide), show (nI (9 - 1) = (2 : Int32)) = False from eq_false (by decide), show (nI (9 - 1) = (3 : Int32)) = False from eq_false (by decide), show (nI (9 - 1) = (4 : Int32)) = False from eq_false (by decide), show (nI (9 - 1) = (5 : Int32)) = False from eq_false (by decide), show (nI (9 - 1) = (6 : Int32)) = False from eq_false (by decide), show (nI (9 - 1) = (7 : Int32)) = False from eq_false (by decide), show (nI (9 - 1) = (8 : Int32)) = True from eq_true rfl, ↓bnd2_of E, ↓bnd2_of (show cal (m + 1) (fun n => f_X11_isNot n 89 v 11 (M.2.2.1 89 43) M1) = _ from en), ↓bnd_of (r_89_42 hW1), ↓bnd_of (r_89_2 hW1), ↓gd_pos hD1, ↓gd_pos hC1, ↓bnd2_of E2, ↓bnd_of (r_89_42 hW2), ↓bnd_of (r_89_3 hW2), ↓gd_pos hD2, ↓gd_pos hC2, ↓bnd2_of E3, h3]
  · have hG := fA_R hW3 (a := 110) (by omega) (s_110 hW3) hq4 (by omega)
    rw [← hq] at hG
    have ef := (rx_fails hW3 m 5 (M3.2.2.1 110 q)).1 h3
    have E4 : cal (m + 1) (fun n => f_X11_fails n 89 5 (M3.2.2.1 110 ((M2.2.2.1 89 43).toNatClampNeg)) M3) = some ((), flM M3 q) := by
      rw [cal_s, hq, nI_z (by omega)]
      exact ef
    unfold T_X11_provenBy_0
    simp (disch := omega) only [↓reduceIte, ↓gd_pos hO, ↓gd_pos hO1, ↓gd_pos hO2, ↓gd_pos hO3, ↓bnd_of (r_89_20 hW), ↓bnd_of (r_89_20 hW1), ↓gd_pos hA, ↓gd_pos hA1, z1, ek, ek2, show (nI (9 - 1) = (0 : Int32)) = False from eq_false (by decide), show (nI (9 - 1) = (1 : Int32)) = False from eq_false (by decide), show (nI (9 - 1) = (2 : Int32)) = False from eq_false (by decide), show (nI (9 - 1) = (3 : Int32)) = False from eq_false (by decide), show (nI (9 - 1) = (4 : Int32)) = False from eq_false (by decide), show (nI (9 - 1) = (5 : Int32)) = False from eq_false (by decide), show (nI (9 - 1) = (6 : Int32)) = False from eq_false (by decide), show (nI (9 - 1) = (7 : Int32)) = False from eq_false (by decide), show (nI (9 - 1) = (8 : Int32)) = True from eq_true rfl, ↓bnd2_of E, ↓bnd2_of (show cal (m + 1) (fun n => f_X11_isNot n 89 v 11 (M.2.2.1 89 43) M1) = _ from en), ↓bnd_of (r_89_42 hW1), ↓bnd_of (r_89_2 hW1), ↓gd_pos hD1, ↓gd_pos hC1, ↓bnd2_of E2, ↓bnd_of (r_89_42 hW2), ↓bnd_of (r_89_3 hW2), ↓gd_pos hD2, ↓gd_pos hC2, ↓bnd2_of E3, h3, hne, ↓bnd_of (r_89_36 hW3), ↓gd_pos hG, ↓bnd2_of E4]
end RQ
