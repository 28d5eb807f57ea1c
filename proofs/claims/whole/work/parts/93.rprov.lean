/-! WHAT A NODE PROVES in the reference, by those in it -/
theorem fO_R {M : Mem} (hW : Wd M) : fO M 89 11 := ⟨by rw [hW.1]; omega, s_89 hW⟩
/-- a fault is kept -/
abbrev flM (M : Mem) (i : Nat) : Mem := wI (wI M 89 30 5) 89 31 (M.2.2.1 110 i)
section RP
variable {M M1 M2 M3 : Mem} {c : Nat} {l : List (Nat × Tm)} {n p d : Nat}
theorem rp_fun (hW : Wd M) (hR : WrkR M c l) (hp : p < l.length) (ho : opl l p = 2) (hd : d < 400) {v : Int32} (hk : f_X11_asks n 89 (nI (d + 1)) (wI M 115 d (M.2.2.1 106 p)) = some (v, M1)) (hW1 : Wd M1) : (¬ M1.2.2.1 89 30 = 0 → f_X11_provenBy (n + 1) 89 (nI p) (nI d) M = some (0, M1)) ∧ (M1.2.2.1 89 30 = 0 → ∀ w, f_X11_formula n 89 9 (M1.2.2.1 106 p) v M1 = some (w, M2) → f_X11_provenBy (n + 1) 89 (nI p) (nI d) M = some (w, M2)) := by
  have h4 := hR.2.1
  have z1 : (nI p).toNatClampNeg = p := nI_z (by omega)
  have z2 : (nI d).toNatClampNeg = d := nI_z (by omega)
  have hO := fO_R hW
  have hO1 := fO_R hW1
  have hA := fA_R hW (a := 105) (by omega) (s_105 hW) (show p < 400 by omega) (by omega)
  have hB := fA_R hW (a := 106) (by omega) (s_106 hW) (show p < 400 by omega) (by omega)
  have hB1 := fA_R hW1 (a := 106) (by omega) (s_106 hW1) (show p < 400 by omega) (by omega)
  have hC := fA_R hW (a := 115) (by omega) (s_115 hW) hd (by omega)
  have ek := hR.kd hp
  rw [ho] at ek
  have E : r_X11_asks n 0 [.ref 89, .int (nI d + 1)] (wI M 115 ((nI d).toNatClampNeg) (M.2.2.1 106 ((nI p).toNatClampNeg))) = some (v, M1) := by
    rw [z1, z2, nI_1]
    exact hk
  rw [prov_eq]
  constructor
  · intro h0
    unfold T_X11_provenBy_0
    simp (disch := omega) only [↓reduceIte, ↓gd_pos hO, ↓gd_pos hO1, ↓bnd_of (r_89_20 hW), ↓gd_pos hA, ↓gd_pos hB, ↓gd_pos hC, z1, ek, show (nI (2 - 1) = (0 : Int32)) = False from eq_false (by decide), show (nI (2 - 1) = (1 : Int32)) = True from eq_true rfl, ↓bnd_of (r_89_21 hW), ↓bnd_of (r_89_42 hW), ↓bnd2_of E, h0]
  · intro h0 w hf
    have E2 : cal (n + 1) (fun n => f_X11_formula n 89 9 (M1.2.2.1 106 ((nI p).toNatClampNeg)) v M1) = some (w, M2) := by
      rw [cal_s, z1]
      exact hf
    unfold T_X11_provenBy_0
    simp (disch := omega) only [↓reduceIte, ↓gd_pos hO, ↓gd_pos hO1, ↓bnd_of (r_89_20 hW), ↓gd_pos hA, ↓gd_pos hB, ↓gd_pos hB1, ↓gd_pos hC, z1, ek, show (nI (2 - 1) = (0 : Int32)) = False from eq_false (by decide), show (nI (2 - 1) = (1 : Int32)) = True from eq_true rfl, ↓bnd_of (r_89_21 hW), ↓bnd_of (r_89_21 hW1), ↓bnd_of (r_89_42 hW), ↓bnd2_of E, h0, ↓bnd2_of E2]
theorem rp_prj (hW : Wd M) (hR : WrkR M c l) (hp : p < l.length) (ho : opl l p = 5 ∨ opl l p = 6) {v : Int32} (hk : f_X11_asks (n + 1) 89 (nI d) M = some (v, M1)) (hW1 : Wd M1) (ek1 : M1.2.2.1 105 p = M.2.2.1 105 p) (hat : M.2.2.1 89 43 = nI (p + 1)) : (¬ M1.2.2.1 89 30 = 0 → f_X11_provenBy (n + 2) 89 (nI p) (nI d) M = some (0, M1)) ∧ ∀ u, u < 16384 → v = nI u → M1.2.2.1 89 30 = 0 → (M1.2.2.1 90 u = 10 → f_X11_provenBy (n + 2) 89 (nI p) (nI d) M = some (if opl l p = 5 then M1.2.2.1 91 u else M1.2.2.1 92 u, M1)) ∧ (p + 1 < 400 → ¬ M1.2.2.1 90 u = 10 → f_X11_provenBy (n + 2) 89 (nI p) (nI d) M = some (0, flM M1 (p + 1))) := by
  have h4 := hR.2.1
  have z1 : (nI p).toNatClampNeg = p := nI_z (by omega)
  have hO := fO_R hW
  have hO1 := fO_R hW1
  have hA := fA_R hW (a := 105) (by omega) (s_105 hW) (show p < 400 by omega) (by omega)
  have hA1 := fA_R hW1 (a := 105) (by omega) (s_105 hW1) (show p < 400 by omega) (by omega)
  have ek := hR.kd hp
  obtain ⟨m, hm⟩ : ∃ m, m = n + 1 := ⟨_, rfl⟩
  rw [← hm] at hk
  rw [show n + 2 = m + 1 by omega, prov_eq]
  have E : r_X11_asks m 0 [.ref 89, .int (nI d)] M = some (v, M1) := hk
  have e0 : T_X11_provenBy_0 (fun c l M => lp (st_X11_provenBy (r_X11_asks m) (m + 1)) (c, l, M)) (fun v M => some (v, M)) none (r_X11_asks m) (m + 1) 89 (nI p) (nI d) M = lp (st_X11_provenBy (r_X11_asks m) (m + 1)) (250, [.ref 89, .int (nI p), .int (nI (p + 1)), .int v], M1) := by
    unfold T_X11_provenBy_0
    rcases ho with ho | ho
    · rw [ho] at ek
      have ek2 := ek1.trans ek
      simp (disch := omega) only [↓reduceIte, ↓gd_pos hO, ↓gd_pos hO1, ↓bnd_of (r_89_20 hW), ↓bnd_of (r_89_20 hW1), ↓gd_pos hA, ↓gd_pos hA1, z1, ek, ek2, show (nI (5 - 1) = (0 : Int32)) = False from eq_false (by decide), show (nI (5 - 1) = (1 : Int32)) = False from eq_false (by decide), show (nI (5 - 1) = (2 : Int32)) = False from eq_false (by decide), show (nI (5 - 1) = (3 : Int32)) = False from eq_false (by decide), show (nI (5 - 1) = (4 : Int32)) = True from eq_true rfl, ↓bnd2_of E, hat]
    · rw [ho] at ek
      have ek2 := ek1.trans ek
      simp (disch := omega) only [↓reduceIte, ↓gd_pos hO, ↓gd_pos hO1, ↓bnd_of (r_89_20 hW), ↓bnd_of (r_89_20 hW1), ↓gd_pos hA, ↓gd_pos hA1, z1, ek, ek2, show (nI (6 - 1) = (0 : Int32)) = False from eq_false (by decide), show (nI (6 - 1) = (1 : Int32)) = False from eq_false (by decide), show (nI (6 - 1) = (2 : Int32)) = False from eq_false (by decide), show (nI (6 - 1) = (3 : Int32)) = False from eq_false (by decide), show (nI (6 - 1) = (4 : Int32)) = False from eq_false (by decide), show (nI (6 - 1) = (5 : Int32)) = True from eq_true rfl, ↓bnd2_of E, hat]
  rw [e0]
  have e1 := ge_X11_provenBy_250 (r_X11_asks m) (m + 1) 89 (nI p) (nI (p + 1)) v M1
  refine ⟨fun h0 => e1.trans ?_, fun u hu hv h0 => ⟨fun h10 => e1.trans ?_, fun h4 h10 => e1.trans ?_⟩⟩
  · have en := (rx_isNot (v := 0) (i := p + 1) (x := v) (kd := 10) hW1 n).1 h0
    rw [← hm] at en
    unfold T_X11_provenBy_250
    simp (disch := omega) only [↓reduceIte, ↓gd_pos hO1, ↓bnd2_of (show cal (m + 1) (fun n => f_X11_isNot n 89 v 10 (nI (p + 1)) M1) = _ from en), show ((1 : Int32) = 0) = False from eq_false (by decide)]
  · have en := (rx_isNot (v := u) (i := p + 1) (x := v) (kd := 10) hW1 n).2.1 h0 hv hu h10
    rw [← hm] at en
    have hD1 := fA_R hW1 (a := 91) (by omega) (s_91 hW1) hu (by omega)
    have hD2 := fA_R hW1 (a := 92) (by omega) (s_92 hW1) hu (by omega)
    rw [← hv] at hD1 hD2
    have zv : v.toNatClampNeg = u := by rw [hv]; exact nI_z (by omega)
    unfold T_X11_provenBy_250
    rcases ho with ho | ho
    · rw [ho] at ek
      have ek2 := ek1.trans ek
      simp (disch := omega) only [↓reduceIte, ↓gd_pos hO1, ↓bnd2_of (show cal (m + 1) (fun n => f_X11_isNot n 89 v 10 (nI (p + 1)) M1) = _ from en), ↓bnd_of (r_89_20 hW1), ↓gd_pos hA1, z1, ek2, show (nI (5 - 1) = (4 : Int32)) = True from eq_true rfl, ↓bnd_of (r_89_2 hW1), ↓gd_pos hD1, zv, ho]
    · rw [ho] at ek
      have ek2 := ek1.trans ek
      simp (disch := omega) only [↓reduceIte, ↓gd_pos hO1, ↓bnd2_of (show cal (m + 1) (fun n => f_X11_isNot n 89 v 10 (nI (p + 1)) M1) = _ from en), ↓bnd_of (r_89_20 hW1), ↓gd_pos hA1, z1, ek2, show (nI (6 - 1) = (4 : Int32)) = False from eq_false (by decide), ↓bnd_of (r_89_3 hW1), ↓gd_pos hD2, zv, ho, Nat.reduceEqDiff]
  · have en := (rx_isNot (v := u) (i := p + 1) (x := v) (kd := 10) hW1 n).2.2 h0 hv hu h4 h10
    rw [← hm] at en
    unfold T_X11_provenBy_250
    simp (disch := omega) only [↓reduceIte, ↓gd_pos hO1, ↓bnd2_of (show cal (m + 1) (fun n => f_X11_isNot n 89 v 10 (nI (p + 1)) M1) = _ from en), show ((1 : Int32) = 0) = False from eq_false (by decide)]
theorem rp_inj (hW : Wd M) (hR : WrkR M c l) (hp : p < l.length) (ho : opl l p = 7 ∨ opl l p = 8) {v : Int32} (hk : f_X11_asks n 89 (nI d) M = some (v, M1)) (hW1 : Wd M1) (ek1 : M1.2.2.1 105 p = M.2.2.1 105 p) : (¬ M1.2.2.1 89 30 = 0 → f_X11_provenBy (n + 1) 89 (nI p) (nI d) M = some (0, M1)) ∧ (M1.2.2.1 89 30 = 0 → ∀ w, f_X11_formula n 89 11 (if opl l p = 7 then v else M1.2.2.1 106 p) (if opl l p = 7 then M1.2.2.1 106 p else v) M1 = some (w, M2) → f_X11_provenBy (n + 1) 89 (nI p) (nI d) M = some (w, M2)) := by
  have h4 := hR.2.1
  have z1 : (nI p).toNatClampNeg = p := nI_z (by omega)
  have hO := fO_R hW
  have hO1 := fO_R hW1
  have hA := fA_R hW (a := 105) (by omega) (s_105 hW) (show p < 400 by omega) (by omega)
  have hA1 := fA_R hW1 (a := 105) (by omega) (s_105 hW1) (show p < 400 by omega) (by omega)
  have hB1 := fA_R hW1 (a := 106) (by omega) (s_106 hW1) (show p < 400 by omega) (by omega)
  have ek := hR.kd hp
  have E : r_X11_asks n 0 [.ref 89, .int (nI d)] M = some (v, M1) := hk
  rw [prov_eq]
  rcases ho with ho | ho
  · rw [ho] at ek
    have ek2 := ek1.trans ek
    constructor
    · intro h0
      unfold T_X11_provenBy_0
      simp (disch := omega) only [↓reduceIte, ↓gd_pos hO, ↓gd_pos hO1, ↓bnd_of (r_89_20 hW), ↓bnd_of (r_89_20 hW1), ↓gd_pos hA, ↓gd_pos hA1, z1, ek, ek2, show (nI (7 - 1) = (0 : Int32)) = False from eq_false (by decide), show (nI (7 - 1) = (1 : Int32)) = False from eq_false (by decide), show (nI (7 - 1) = (2 : Int32)) = False from eq_false (by decide), show (nI (7 - 1) = (3 : Int32)) = False from eq_false (by decide), show (nI (7 - 1) = (4 : Int32)) = False from eq_false (by decide), show (nI (7 - 1) = (5 : Int32)) = False from eq_false (by decide), show (nI (7 - 1) = (6 : Int32)) = True from eq_true rfl, ↓bnd2_of E, h0]
    · intro h0 w hf
      rw [if_pos ho, if_pos ho] at hf
      have E2 : cal (n + 1) (fun n => f_X11_formula n 89 11 v (M1.2.2.1 106 ((nI p).toNatClampNeg)) M1) = some (w, M2) := by
        rw [cal_s, z1]
        exact hf
      unfold T_X11_provenBy_0
      simp (disch := omega) only [↓reduceIte, ↓gd_pos hO, ↓gd_pos hO1, ↓bnd_of (r_89_20 hW), ↓bnd_of (r_89_20 hW1), ↓bnd_of (r_89_21 hW1), ↓gd_pos hA, ↓gd_pos hA1, ↓gd_pos hB1, z1, ek, ek2, show (nI (7 - 1) = (0 : Int32)) = False from eq_false (by decide), show (nI (7 - 1) = (1 : Int32)) = False from eq_false (by decide), show (nI (7 - 1) = (2 : Int32)) = False from eq_false (by decide), show (nI (7 - 1) = (3 : Int32)) = False from eq_false (by decide), show (nI (7 - 1) = (4 : Int32)) = False from eq_false (by decide), show (nI (7 - 1) = (5 : Int32)) = False from eq_false (by decide), show (nI (7 - 1) = (6 : Int32)) = True from eq_true rfl, ↓bnd2_of E, h0, ↓bnd2_of E2]
  · rw [ho] at ek
    have ek2 := ek1.trans ek
    constructor
    · intro h0
      unfold T_X11_provenBy_0
      simp (disch := omega) only [↓reduceIte, ↓gd_pos hO, ↓gd_pos hO1, ↓bnd_of (r_89_20 hW), ↓bnd_of (r_89_20 hW1), ↓gd_pos hA, ↓gd_pos hA1, z1, ek, ek2, show (nI (8 - 1) = (0 : Int32)) = False from eq_false (by decide), show (nI (8 - 1) = (1 : Int32)) = False from eq_false (by decide), show (nI (8 - 1) = (2 : Int32)) = False from eq_false (by decide), show (nI (8 - 1) = (3 : Int32)) = False from eq_false (by decide), show (nI (8 - 1) = (4 : Int32)) = False from eq_false (by decide), show (nI (8 - 1) = (5 : Int32)) = False from eq_false (by decide), show (nI (8 - 1) = (6 : Int32)) = False from eq_false (by decide), show (nI (8 - 1) = (7 : Int32)) = True from eq_true rfl, ↓bnd2_of E, h0]
    · intro h0 w hf
      rw [if_neg (by omega), if_neg (by omega)] at hf
      have E2 : cal (n + 1) (fun n => f_X11_formula n 89 11 (M1.2.2.1 106 ((nI p).toNatClampNeg)) v M1) = some (w, M2) := by
        rw [cal_s, z1]
        exact hf
      unfold T_X11_provenBy_0
      simp (disch := omega) only [↓reduceIte, ↓gd_pos hO, ↓gd_pos hO1, ↓bnd_of (r_89_20 hW), ↓bnd_of (r_89_20 hW1), ↓bnd_of (r_89_21 hW1), ↓gd_pos hA, ↓gd_pos hA1, ↓gd_pos hB1, z1, ek, ek2, show (nI (8 - 1) = (0 : Int32)) = False from eq_false (by decide), show (nI (8 - 1) = (1 : Int32)) = False from eq_false (by decide), show (nI (8 - 1) = (2 : Int32)) = False from eq_false (by decide), show (nI (8 - 1) = (3 : Int32)) = False from eq_false (by decide), show (nI (8 - 1) = (4 : Int32)) = False from eq_false (by decide), show (nI (8 - 1) = (5 : Int32)) = False from eq_false (by decide), show (nI (8 - 1) = (6 : Int32)) = False from eq_false (by decide), show (nI (8 - 1) = (7 : Int32)) = True from eq_true rfl, ↓bnd2_of E, h0, ↓bnd2_of E2]
end RP
