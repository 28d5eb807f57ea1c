/-! ROWS OF NODES in the reference; what a node proves there -/
def agR (M : Mem) (c : Nat) (nd : Nat × Tm) (g : Int32) : Prop := (nd.1 = 1 → g = nv nd.2) ∧ (tf nd.1 → ∃ i, i < c ∧ g = nI i ∧ dR M i = nd.2) ∧ (nd.1 ≠ 1 → ¬ tf nd.1 → g = -1)
def RowR (M : Mem) (ak aa b c : Nat) (l : List (Nat × Tm)) : Prop := okR l ∧ ∀ i nd, l[i]? = some nd → M.2.2.1 ak (b + i) = nI (nd.1 - 1) ∧ agR M c nd (M.2.2.1 aa (b + i))
/-- the row that is worked at -/
def WrkR (M : Mem) (c : Nat) (l : List (Nat × Tm)) : Prop := M.2.2.1 89 24 = nI l.length ∧ l.length ≤ 400 ∧ RowR M 105 106 0 c l
section RA
variable {M M1 : Mem} {c c1 : Nat} {l : List (Nat × Tm)}
theorem dR_fq {S : Nat → Nat → Prop} (hF : Fq S M M1) (h0 : ∀ k, ¬ S 90 k) (h1 : ∀ k, ¬ S 91 k) (h2 : ∀ k, ¬ S 92 k) : dR M1 = dR M := by
  funext i
  unfold dR
  rw [hF.ints h0, hF.ints h1, hF.ints h2]
theorem agR.mv {nd : Nat × Tm} {g : Int32} (h : agR M c nd g) (e : ∀ i, i < c → dR M1 i = dR M i) (hc : c ≤ c1) : agR M1 c1 nd g := ⟨h.1, fun q => by
  obtain ⟨i, h1, h2, h3⟩ := h.2.1 q
  exact ⟨i, by omega, h2, (e i h1).trans h3⟩, h.2.2⟩
theorem RowR.mv {ak aa b : Nat} (h : RowR M ak aa b c l) (e1 : ∀ i, i < l.length → M1.2.2.1 ak (b + i) = M.2.2.1 ak (b + i)) (e2 : ∀ i, i < l.length → M1.2.2.1 aa (b + i) = M.2.2.1 aa (b + i)) (e : ∀ i, i < c → dR M1 i = dR M i) (hc : c ≤ c1) : RowR M1 ak aa b c1 l := by
  refine ⟨h.1, fun i nd hi => ?_⟩
  have hl := (opl_of hi).2.2
  obtain ⟨h1, h2⟩ := h.2 i nd hi
  rw [e1 i hl, e2 i hl]
  exact ⟨h1, h2.mv e hc⟩
theorem WrkR.mv (h : WrkR M c l) (e0 : M1.2.2.1 89 24 = M.2.2.1 89 24) (e1 : M1.2.2.1 105 = M.2.2.1 105) (e2 : M1.2.2.1 106 = M.2.2.1 106) (e : ∀ i, i < c → dR M1 i = dR M i) (hc : c ≤ c1) : WrkR M1 c1 l := ⟨e0.trans h.1, h.2.1, h.2.2.mv (fun i _ => by rw [e1]) (fun i _ => by rw [e2]) e hc⟩
theorem WrkR.kd (h : WrkR M c l) {i : Nat} (hi : i < l.length) : M.2.2.1 105 i = nI (opl l i - 1) := by
  have := (h.2.2.2 i _ (opl_get hi)).1
  rw [Nat.zero_add] at this
  exact this
theorem WrkR.ag (h : WrkR M c l) {i : Nat} (hi : i < l.length) : agR M c (opl l i, lbl l i) (M.2.2.1 106 i) := by
  have := (h.2.2.2 i _ (opl_get hi)).2
  rw [Nat.zero_add] at this
  exact this
theorem WrkR.told (h : WrkR M c l) {p : Nat} (hp : p < l.length) (ho : tf (opl l p)) : ∃ i, i < c ∧ M.2.2.1 106 p = nI i ∧ dR M i = lbl l p := (h.ag hp).2.1 ho
theorem asks_eq (n : Nat) (x : Int32) (M : Mem) : f_X11_asks (n + 1) 89 x M = T_X11_asks_0 (fun v M => some (v, M)) none (r_X11_asks n) (n + 1) 89 x M := rfl
theorem prov_eq (n : Nat) (x y : Int32) (M : Mem) : f_X11_provenBy (n + 1) 89 x y M = T_X11_provenBy_0 (fun c l M => lp (st_X11_provenBy (r_X11_asks n) (n + 1)) (c, l, M)) (fun v M => some (v, M)) none (r_X11_asks n) (n + 1) 89 x y M := ge_X11_provenBy_0 (r_X11_asks n) (n + 1) 89 x y M
theorem fA_R (hW : Wd M) {a z i : Nat} (ha : a < 126) (hs : M.2.1 a = .inl (1, z)) (hi : i < z) (hz : z ≤ 70000) : fA M a 1 (nI i) := ⟨by rw [hW.1]; exact ha, z, hs, vp_nI hi hz⟩
/-- what is known at a node in the reference -/
theorem rx_isNot (hW : Wd M) (n : Nat) {v i : Nat} {x kd : Int32} : (¬ M.2.2.1 89 30 = 0 → f_X11_isNot (n + 1) 89 x kd (nI i) M = some (1, M)) ∧ (M.2.2.1 89 30 = 0 → x = nI v → v < 16384 → M.2.2.1 90 v = kd → f_X11_isNot (n + 1) 89 x kd (nI i) M = some (0, M)) ∧ (M.2.2.1 89 30 = 0 → x = nI v → v < 16384 → i < 400 → ¬ M.2.2.1 90 v = kd → f_X11_isNot (n + 1) 89 x kd (nI i) M = some (1, wI (wI M 89 30 5) 89 31 (M.2.2.1 110 i))) := by
  have hO : fO M 89 11 := ⟨by rw [hW.1]; omega, s_89 hW⟩
  refine ⟨fun h => ?_, fun h hx hv hk => ?_, fun h hx hv hi hk => ?_⟩
  · unfold f_X11_isNot b_X11_isNot T_X11_isNot_0
    simp only [↓reduceIte, ↓gd_pos hO, h]
  · subst hx
    have hA := fA_R hW (a := 90) (by omega) (s_90 hW) hv (by omega)
    unfold f_X11_isNot b_X11_isNot T_X11_isNot_0
    simp (disch := omega) only [↓reduceIte, ↓gd_pos hO, h, ↓bnd_of (r_89_1 hW), ↓gd_pos hA, nI_z, hk]
  · subst hx
    have hA := fA_R hW (a := 90) (by omega) (s_90 hW) hv (by omega)
    have hB := fA_R hW (a := 110) (by omega) (s_110 hW) hi (by omega)
    have ef := (rx_fails hW n 5 (M.2.2.1 110 i)).1 h
    have E : cal (n + 1) (fun n => f_X11_fails n 89 5 (M.2.2.1 110 ((nI i).toNatClampNeg)) M) = some ((), wI (wI M 89 30 5) 89 31 (M.2.2.1 110 i)) := by
      rw [cal_s, nI_z (by omega)]
      exact ef
    have hO2 : fO (wI (wI M 89 30 5) 89 31 (M.2.2.1 110 i)) 89 11 := hO
    have h5 : (wI (wI M 89 30 5) 89 31 (M.2.2.1 110 i)).2.2.1 89 30 = 5 := by simp [up2_if]
    unfold f_X11_isNot b_X11_isNot T_X11_isNot_0
    simp (disch := omega) only [↓reduceIte, ↓gd_pos hO, ↓gd_pos hO2, h, ↓bnd_of (r_89_1 hW), ↓bnd_of (r_89_36 hW), ↓gd_pos hA, ↓gd_pos hB, nI_z, hk, ↓bnd2_of E, up2_if, Nat.reduceEqDiff, and_false, and_self, if_false, if_true, show ((5 : Int32) = 0) = False from eq_false (by decide)]
theorem rp_L (hW : Wd M) (hR : WrkR M c l) (n : Nat) {p j : Nat} (hp : p < l.length) (ho : opl l p = 1) (hj : lbl l p = .index j) (hj4 : j < 400) (x2 : Int32) : f_X11_provenBy (n + 1) 89 (nI p) x2 M = some (M.2.2.1 115 j, M) := by
  have hO : fO M 89 11 := ⟨by rw [hW.1]; omega, s_89 hW⟩
  have h4 := hR.2.1
  have hA := fA_R hW (a := 105) (by omega) (s_105 hW) (show p < 400 by omega) (by omega)
  have hB := fA_R hW (a := 106) (by omega) (s_106 hW) (show p < 400 by omega) (by omega)
  have ek := hR.kd hp
  rw [ho] at ek
  have ag := (hR.ag hp).1 ho
  rw [hj, show nv (opl l p, Jvm.Term.index j).2 = nI j from rfl] at ag
  have hC : fA M 115 1 (M.2.2.1 106 ((nI p).toNatClampNeg)) := by
    rw [nI_z (by omega), ag]
    exact fA_R hW (by omega) (s_115 hW) hj4 (by omega)
  have hz : ((0 : Int32) ≤ nI j) = True := eq_true (nI_pos' (by omega))
  rw [prov_eq]
  unfold T_X11_provenBy_0
  simp (disch := omega) only [↓reduceIte, ↓gd_pos hO, ↓bnd_of (r_89_20 hW), ↓gd_pos hA, nI_z, ek, show (nI (1 - 1) = (0 : Int32)) = True from eq_true rfl, ↓bnd_of (r_89_21 hW), ↓gd_pos hB, ↓bnd_of (r_89_42 hW), ↓gd_pos hC, ag, hz]
theorem rp_H (hW : Wd M) (hR : WrkR M c l) (n : Nat) {p j : Nat} (hp : p < l.length) (ho : opl l p = 1) (hj : lbl l p = .arg j) (hj4 : j < 6) (x2 : Int32) : f_X11_provenBy (n + 1) 89 (nI p) x2 M = some (M.2.2.1 98 j, M) := by
  have hO : fO M 89 11 := ⟨by rw [hW.1]; omega, s_89 hW⟩
  have h4 := hR.2.1
  have hA := fA_R hW (a := 105) (by omega) (s_105 hW) (show p < 400 by omega) (by omega)
  have hB := fA_R hW (a := 106) (by omega) (s_106 hW) (show p < 400 by omega) (by omega)
  have ek := hR.kd hp
  rw [ho] at ek
  have ag := (hR.ag hp).1 ho
  rw [hj, show nv (opl l p, Jvm.Term.arg j).2 = -1 - nI j from rfl] at ag
  obtain ⟨x, hx, ag2, hx2⟩ : ∃ x : Int32, ((0 : Int32) ≤ x) = False ∧ M.2.2.1 106 p = x ∧ (-1 : Int32) - x = nI j := ⟨_, eq_false (Int32.not_le.mpr (hy_neg (k := j) (by omega))), ag, hy_hy (by omega)⟩
  clear ag
  have hC : fA M 98 1 ((-1) - (M.2.2.1 106 ((nI p).toNatClampNeg))) := by
    rw [nI_z (by omega), ag2, hx2]
    exact fA_R hW (by omega) (s_98 hW) hj4 (by omega)
  rw [prov_eq]
  unfold T_X11_provenBy_0
  simp (disch := omega) only [↓reduceIte, ↓gd_pos hO, ↓bnd_of (r_89_20 hW), ↓gd_pos hA, nI_z, ek, show (nI (1 - 1) = (0 : Int32)) = True from eq_true rfl, ↓bnd_of (r_89_21 hW), ↓gd_pos hB, ↓bnd_of (r_89_11 hW), ↓gd_pos hC, ag2, hx, hx2]
end RA
