/-! LINES in the class: the walk -/
def S6q (a k : Nat) : Prop := S67 a k ∨ a = 72 ∨ a = 73
def SLn (p e d a k : Nat) : Prop := S67 a k ∨ (a = 72 ∧ p ≤ k ∧ k < e) ∨ (a = 73 ∧ d ≤ k)
theorem SLn.q {p e d a k : Nat} (h : SLn p e d a k) : S6q a k := by unfold SLn S67 at h; unfold S6q S67; omega
/-- a row stands in another -/
def SW (W : List Int32) (K : Nat) (l : List Int32) : Prop := ∃ x y, W = x ++ (l ++ y) ∧ x.length = K
theorem SW.app {W a b : List Int32} {K : Nat} (h : SW W K (a ++ b)) : SW W K a ∧ SW W (K + a.length) b := by
  obtain ⟨x, y, e, hx⟩ := h
  exact ⟨⟨x, b ++ y, by rw [e, List.append_assoc], hx⟩, ⟨x ++ a, y, by rw [e]; simp only [List.append_assoc], by rw [List.length_append, hx]⟩⟩
theorem SW.hd {W l : List Int32} {K : Nat} {v : Int32} (h : SW W K (v :: l)) : W[K]? = some v ∧ SW W (K + 1) l := by
  obtain ⟨x, y, e, hx⟩ := h
  refine ⟨?_, x ++ [v], y, by rw [e]; simp, by rw [List.length_append, hx]; rfl⟩
  rw [e, ← hx, List.getElem?_append_right (Nat.le_refl _), Nat.sub_self]
  rfl
theorem wk_1 : ∀ t, isT t → ∀ p, wk t p 1 = (-1 - nI p) :: wk t p 0 := by
  apply tm_ind
  · intro k p; rfl
  · intro k p; rfl
  · intro o f a _ _ _ p; rfl
  · intro o a b _ _ _ _ _ p; rfl
  · intro m a b _ _ _ _ _ _ p; rfl
section FL5
variable {M M0 M1 : Mem} {tr c n : Nat} {lr : List (Nat × Tm)} {acc : List Ln} {W : List Int32} {tl : Nat → Fm} {d p : Nat}
theorem LtC.s7 (h : LtC M tr c lr) (hF : Fr S6q M M1) : LtC M1 tr c lr := by
  obtain ⟨h1, h2, h3, h4⟩ := h
  have hT : ¬ (67 ≤ tr ∧ tr ≤ 73) ∧ ¬ (67 ≤ tr + 1 ∧ tr + 1 ≤ 73) ∧ ¬ (67 ≤ tr + 2 ∧ tr + 2 ≤ 73) := by
    unfold TOb at h3
    omega
  refine ⟨hF.Wd h1, by rw [hF.2.2.1]; exact h2, h3, h4.mv (hF.int (by unfold S6q S67; omega)) (hF.ints (by unfold S6q S67; omega)) (hF.ints (by unfold S6q S67; omega)) (fun i _ => ?_) (Nat.le_refl _)⟩
  rw [dC_fq hF.q (by unfold S6q S67; omega) (by unfold S6q S67; omega) (by unfold S6q S67; omega)]
theorem TabC.s7 (hT : TabC M c) (F1 : Fr S6q M M1) : TabC M1 c ∧ ∀ i, dC M1 i = dC M i := hT.fr F1 (by unfold S6q S67; omega) (by unfold S6q S67; omega) (by unfold S6q S67; omega) (by unfold S6q S67; omega) (by unfold S6q S67; omega) (by unfold S6q S67; omega) (by unfold S6q S67; omega)
theorem c_takeOn (hL : LtC M0 tr c lr) (hT : TabC M0 c) (F : Fr S6q M0 M) (hN : LnC M c acc) (hl : acc.length < 406) {q0 lim : Nat} {f : Fm} (hq0 : q0 < 200) (hd : M0.2.2.1 42 q0 = nI (d + 1)) (hd2 : d < 200) (hk : TkO M0 c lr lim q0 f) (hlim : lim ≤ 200) : ∃ M1, f_X4_takeOn (n + 2) 67 40 (nI q0) M = some ((), M1) ∧ Fr (fun a k => S67 a k ∨ (a = 73 ∧ k = d)) M M1 ∧ LnC M1 c (lnT acc f (d + 1)) ∧ M1.2.2.1 73 d = nI acc.length := by
  have hL1 := hL.s7 F
  obtain ⟨T1, d1⟩ := hT.s7 F
  have hW := hL1.1
  have hla := hN.2.1
  obtain ⟨m, hm⟩ : ∃ m, m = n + 1 := ⟨_, rfl⟩
  have y1 := c_depthOf hW m hq0
  rw [F.int (by unfold S6q S67; omega), hd] at y1
  have hk1 : TkO M c lr lim q0 f := hk.up F (fun k q => by unfold S6q S67 at q; omega) (fun k q => by unfold S6q S67 at q; omega) (fun k _ q => by unfold S6q S67 at q; omega) (fun i _ => d1 i) (Nat.le_refl _) (Nat.le_refl _) hlim
  obtain ⟨v, v1, y2, v3⟩ := c_takenOn hL1 T1 n hk1
  rw [← hm] at y2
  obtain ⟨M1, y3, F1, N1⟩ := c_addLine (n := m) hW hN hl v1 1 (d + 1)
  rw [v3] at N1
  have hW1 := F1.Wd hW
  have F2 : Fr (fun a k => a = 73 ∧ k = d) M1 (wI M1 73 d (nI acc.length)) := Fr.refl.wI ⟨rfl, rfl⟩ _
  refine ⟨wI M1 73 d (nI acc.length), ?_, (F1.mono (fun a k q => Or.inl q)).trans (F2.mono (fun a k q => Or.inr q)), N1.fr F2 (fun a k q => by omega) (fun i => by rw [dC_fq F2.q (by omega) (by omega) (by omega)]), by simp [up2_if]⟩
  rw [show n + 2 = m + 1 by omega]
  show T_X4_takeOn_0 (fun v M => some (v, M)) none (m + 1) 67 40 (nI q0) M = _
  unfold T_X4_takeOn_0
  have h0 : (nI (d + 1) ≤ (0 : Int32)) = False := eq_false (by rw [show (0 : Int32) = nI 0 from rfl, nI_le_ (by omega) (by omega)]; omega)
  have h2 : ((200 : Int32) < nI (d + 1)) = False := eq_false (by rw [show (200 : Int32) = nI 200 from rfl, nI_lt_ (by omega) (by omega)]; omega)
  have h3 : nI (d + 1) - 1 = nI d := nI_sub (b := 1) (by omega) (by omega)
  have y3' : f_X4_addLine m 67 1 (nI v) (nI (d + 1)) M = some (nI acc.length, M1) := y3
  have f73 : fA M1 73 1 (nI d) := fA_C hW1 (by omega) (s_73 hW1) hd2 (by omega)
  simp (disch := omega) only [↓gd_pos (fO40 hW), ↓bnd2_of (show cal (m + 1) (fun zz => f_X3_depthOf zz 40 (nI q0) M) = _ from y1), ↓bnd2_of (show cal (m + 1) (fun zz => f_X3_takenOn zz 40 (nI q0) M) = _ from y2), ↓gd_pos (fO67 hW), ↓bnd2_of (show cal (m + 1) (fun zz => f_X4_addLine zz 67 1 (nI v) (nI (d + 1)) M) = _ from y3'), h0, h2, ↓reduceIte, ↓gd_pos (fO67 hW1), ↓bnd_of (r_67_6 hW1), h3, ↓gd_pos f73, nI_z]
noncomputable abbrev lpG (n o L wh q r : Nat) (M : Mem) : Option (Unit × Mem) := lp (st_X4_endNode (n + 1)) (104, [.ref 67, .ref 40, .int (nI o), .int (nI L), .int (nI wh), .int (nI q), .int (nI r)], M)
theorem g_end (h1 : 1 ≤ p) (h10 : p ≤ 10) {L wh q r : Nat} (hr : ar p ≤ r) (hr2 : r < 10) : lpG n p L wh q r M = some ((), M) := by
  have ea := c_arity (M := M) n h1 h10
  have har := ar_le p
  refine (ge_X4_endNode_104 (n + 1) 67 40 (nI p) (nI L) (nI wh) (nI q) (nI r) M).trans ?_
  unfold T_X4_endNode_104
  have hle : (nI (ar p) ≤ nI r) = True := eq_true (by rw [nI_le_ (by omega) (by omega)]; exact hr)
  simp (disch := omega) only [↓bnd2_of (show cal (n + 1) (fun zz => f_X10_arity zz (nI p) M) = _ from ea), hle, ↓reduceIte]
theorem g_go (hW : Wd M) {o : Nat} (h1 : 1 ≤ o) (h10 : o ≤ 10) {rule deep : Nat} {f : Fm} {g : Nat → Int32} (h : LnC M c (acc ++ [(rule, f, deep, g)])) {wh q q1 r : Nat} {x : Int32} (hr : r < ar o) (hwh : wh < 3) (hq : q < 200) (hx : M.2.2.1 72 q = x) (he : M.2.2.1 41 q = nI q1) : ∃ M1, lpG n o acc.length wh q r M = lpG n o acc.length (wh + 1) q1 (r + 1) M1 ∧ Fr S67 M M1 ∧ LnC M1 c (acc ++ [(rule, f, deep, fun j => if j = wh then x else g j)]) := by
  have ea := c_arity (M := M) n h1 h10
  have har := ar_le o
  obtain ⟨M1, y2, F1, N1⟩ := c_setFrom (n := n) hW h hwh x
  have hW1 := F1.Wd hW
  have y1 := c_atG hW n (a := 72) (by omega) (s_72 hW) hq (by omega)
  rw [hx] at y1
  have y3 := c_endOf hW1 n hq
  rw [F1.int (by unfold S67; omega), he] at y3
  refine ⟨M1, ?_, F1, N1⟩
  refine (ge_X4_endNode_104 (n + 1) 67 40 (nI o) (nI acc.length) (nI wh) (nI q) (nI r) M).trans ?_
  unfold T_X4_endNode_104
  have hle : (nI (ar o) ≤ nI r) = False := eq_false (by rw [nI_le_ (by omega) (by omega)]; omega)
  simp (disch := omega) only [↓bnd2_of (show cal (n + 1) (fun zz => f_X10_arity zz (nI o) M) = _ from ea), hle, ↓reduceIte, ↓gd_pos (fO67 hW), ↓bnd_of (r_67_5 hW), ↓bnd2_of (show cal (n + 1) (fun zz => f_X10_at zz 72 (nI q) M) = _ from y1), ↓bnd2_of (show cal (n + 1) (fun zz => f_X4_setFrom zz 67 (nI acc.length) (nI wh) x M) = _ from y2), ↓gd_pos (fO40 hW1), ↓bnd2_of (show cal (n + 1) (fun zz => f_X3_endOf zz 40 (nI q) M1) = _ from y3), nI_1]
/-- a name's end -/
theorem en_name (hL : LtC M tr c lr) (hp : p < lr.length) (ho : opl lr p = 1) {ln : Nat} (hln : (∃ k, k < 200 ∧ lbl lr p = .index k ∧ M.2.2.1 73 k = nI ln) ∨ ∃ k, k < 6 ∧ lbl lr p = .arg k ∧ ln = k) : f_X4_endNode (n + 2) 67 40 (nI p) M = some ((), wI M 72 p (nI ln)) := by
  have hW := hL.1
  have hR := hL.2.2.2
  have h200 := hR.2.1
  obtain ⟨m, hm⟩ : ∃ m, m = n + 1 := ⟨_, rfl⟩
  have hOt := fOT hW hL.2.2.1
  have y1 := c_opAt hW hL.2.2.1 hR m hp
  have y2 := c_argAt hW hL.2.2.1 hR m hp
  have hag := ((hR.2.2.2 p _ (opl_get hp)).2).1 ho
  obtain ⟨g, hg⟩ : ∃ g, g = M.2.2.1 (tr + 2) p := ⟨_, rfl⟩
  have hgv : g = nv (lbl lr p) := by rw [hg]; exact hag
  rw [← hg] at y2
  have y3 : f_X4_lineOfName m 67 g M = some (nI ln, M) := by
    show T_X4_lineOfName_0 (fun v M => some (v, M)) none m 67 g M = _
    unfold T_X4_lineOfName_0
    rcases hln with ⟨k, k1, k2, k3⟩ | ⟨k, k1, k2, k3⟩
    · have hgk : g = nI k := by rw [hgv, k2]; rfl
      have hge : ((0 : Int32) ≤ g) = True := eq_true (by rw [hgk, show (0 : Int32) = nI 0 from rfl, nI_le_ (by omega) (by omega)]; omega)
      have y := c_atG hW n (a := 73) (by omega) (s_73 hW) k1 (by omega)
      rw [k3, ← hgk] at y
      rw [hm]
      simp (disch := omega) only [hge, ↓reduceIte, ↓gd_pos (fO67 hW), ↓bnd_of (r_67_6 hW), ↓bnd2_of (show cal (n + 1) (fun zz => f_X10_at zz 73 g M) = _ from y)]
    · have hgk : g = -1 - nI k := by rw [hgv, k2]; rfl
      have hge : ((0 : Int32) ≤ g) = False := eq_false (by rw [hgk]; exact Int32.not_le.mpr (hy_neg (by omega)))
      have hgi : -1 - g = nI ln := by rw [hgk, k3]; exact neg_n1 k
      obtain ⟨y, hy⟩ : ∃ y, y = -1 - g := ⟨_, rfl⟩
      rw [← hgi, ← hy]
      clear hgk hgi hgv hg
      simp (disch := omega) only [hge, ↓reduceIte, ← hy]
  have q1 : (nI (opl lr p) = (1 : Int32)) = True := eq_true (by rw [ho]; rfl)
  have q2 : (nI (opl lr p) = (2 : Int32)) = False := eq_false (by rw [ho]; decide)
  have hn0 : (nI p < (0 : Int32)) = False := nI_lt0 (by omega)
  have h20 : ((200 : Int32) ≤ nI p) = False := eq_false (by rw [show (200 : Int32) = nI 200 from rfl, nI_le_ (by omega) (by omega)]; omega)
  have f72 : fA M 72 1 (nI p) := fA_C hW (by omega) (s_72 hW) (by omega) (by omega)
  rw [show n + 2 = m + 1 by omega]
  refine (ge_X4_endNode_0 (m + 1) 67 40 (nI p) M).trans ?_
  unfold T_X4_endNode_0
  simp (disch := omega) only [↓gd_pos (fO40 hW), ↓bnd_of hL.2.1, ↓gd_pos hOt, ↓bnd2_of (show cal (m + 1) (fun zz => f_X9_opAt zz tr (nI p) M) = _ from y1), q1, ↓reduceIte, ↓bnd2_of (show cal (m + 1) (fun zz => f_X9_argAt zz tr (nI p) M) = _ from y2), ↓gd_pos (fO67 hW), ↓bnd2_of (show cal (m + 1) (fun zz => f_X4_lineOfName zz 67 g M) = _ from y3)]
  refine (ge_X4_endNode_44 (m + 1) 67 40 (nI p) (nI (opl lr p)) (nI ln) M).trans ?_
  unfold T_X4_endNode_44
  simp (disch := omega) only [hn0, h20, ↓reduceIte, ↓gd_pos (fO67 hW), ↓bnd_of (r_67_5 hW), ↓gd_pos f72, nI_z]
  refine (ge_X4_endNode_65 (m + 1) 67 40 (nI p) (nI (opl lr p)) (nI ln) _).trans ?_
  unfold T_X4_endNode_65
  simp (disch := omega) only [q2, ↓reduceIte, nI_1]
  rw [ho]
  exact g_end (M := wI M 72 p (nI ln)) (n := m) (p := 1) (wh := 0) (q := p + 1) (r := 0) (by omega) (by omega) (by decide) (by omega)
/-- another node's end, up to its sources -/
theorem en_node (hL : LtC M0 tr c lr) (hT : TabC M0 c) (hty : TyQ M0 c p (tl p)) (F : Fr S6q M0 M) (hN : LnC M c acc) (hl : acc.length < 406) (hp : p < lr.length) (ho : opl lr p ≠ 1) (hd : M0.2.2.1 42 p = nI d) (hd2 : d < 200) {x0 : Int32} (h73 : opl lr p = 2 → M.2.2.1 73 d = x0) : ∃ M1 wh g, f_X4_endNode (n + 2) 67 40 (nI p) M = lpG (n + 1) (opl lr p) acc.length wh (p + 1) 0 M1 ∧ Fr (fun a k => S67 a k ∨ (a = 72 ∧ k = p)) M M1 ∧ LnC M1 c (acc ++ [(opl lr p, tl p, d, g)]) ∧ M1.2.2.1 72 p = nI acc.length ∧ ((opl lr p = 2 ∧ wh = 1 ∧ g 0 = x0 ∧ g 1 = -1 ∧ g 2 = -1) ∨ (opl lr p ≠ 2 ∧ wh = 0 ∧ g 0 = -1 ∧ g 1 = -1 ∧ g 2 = -1)) := by
  have hL1 := hL.s7 F
  obtain ⟨T1, d1⟩ := hT.s7 F
  have hW := hL1.1
  have hR := hL1.2.2.2
  have h200 := hR.2.1
  have hor := hR.2.2.1.at_ hp
  have hla := hN.2.1
  obtain ⟨m, hm⟩ : ∃ m, m = n + 1 := ⟨_, rfl⟩
  have hOt := fOT hW hL1.2.2.1
  have y1 := c_opAt hW hL1.2.2.1 hR m hp
  obtain ⟨v, v1, v2, v3⟩ := hty
  have y2 := c_typeOf hW m (i := p) (by omega)
  rw [F.int (by unfold S6q S67; omega), v2] at y2
  have y3 : ∀ {M2 : Mem}, Fr S6q M0 M2 → f_X3_depthOf m 40 (nI p) M2 = some (nI d, M2) := fun {M2} F2 => by
    have := c_depthOf (F2.Wd hL.1) m (i := p) (by omega)
    rw [F2.int (by unfold S6q S67; omega), hd] at this
    exact this
  have y3a := y3 F
  obtain ⟨M1, y4, F1, N1⟩ := c_addLine (n := m) hW hN hl v1 (opl lr p) d
  rw [d1, v3] at N1
  have hW1 := F1.Wd hW
  obtain ⟨M2, hM2⟩ : ∃ M2, M2 = wI M1 72 p (nI acc.length) := ⟨_, rfl⟩
  have F2 : Fr (fun a k => a = 72 ∧ k = p) M1 M2 := by rw [hM2]; exact Fr.refl.wI ⟨rfl, rfl⟩ _
  have hW2 := F2.Wd hW1
  have N2 : LnC M2 c (acc ++ [(opl lr p, tl p, d, noF)]) := N1.fr F2 (fun a k q => by omega) (fun i => by rw [dC_fq F2.q (by omega) (by omega) (by omega)])
  have g2 : M2.2.2.1 72 p = nI acc.length := by rw [hM2]; simp [up2_if]
  have F02 : Fr (fun a k => S67 a k ∨ (a = 72 ∧ k = p)) M M2 := (F1.mono (fun a k q => Or.inl q)).trans (F2.mono (fun a k q => Or.inr q))
  have q1 : (nI (opl lr p) = (1 : Int32)) = False := eq_false (fun z => ho ((nI_eq (b := 1) (by omega) (by omega)).mp z))
  have hn0 : (nI p < (0 : Int32)) = False := nI_lt0 (by omega)
  have h20 : ((200 : Int32) ≤ nI p) = False := eq_false (by rw [show (200 : Int32) = nI 200 from rfl, nI_le_ (by omega) (by omega)]; omega)
  have f72 : fA M1 72 1 (nI p) := fA_C hW1 (by omega) (s_72 hW1) (by omega) (by omega)
  have st : f_X4_endNode (m + 1) 67 40 (nI p) M = lp (st_X4_endNode (m + 1)) (65, [.ref 67, .ref 40, .int (nI p), .int (nI (opl lr p)), .int (nI acc.length)], M2) := by
    refine (ge_X4_endNode_0 (m + 1) 67 40 (nI p) M).trans ?_
    unfold T_X4_endNode_0
    simp (disch := omega) only [↓gd_pos (fO40 hW), ↓bnd_of hL1.2.1, ↓gd_pos hOt, ↓bnd2_of (show cal (m + 1) (fun zz => f_X9_opAt zz tr (nI p) M) = _ from y1), q1, ↓reduceIte, ↓bnd2_of (show cal (m + 1) (fun zz => f_X3_typeOf zz 40 (nI p) M) = _ from y2), ↓bnd2_of (show cal (m + 1) (fun zz => f_X3_depthOf zz 40 (nI p) M) = _ from y3a), ↓gd_pos (fO67 hW), ↓bnd2_of (show cal (m + 1) (fun zz => f_X4_addLine zz 67 (nI (opl lr p)) (nI v) (nI d) M) = _ from y4)]
    refine (ge_X4_endNode_44 (m + 1) 67 40 (nI p) (nI (opl lr p)) (nI acc.length) M1).trans ?_
    unfold T_X4_endNode_44
    simp (disch := omega) only [hn0, h20, ↓reduceIte, ↓gd_pos (fO67 hW1), ↓bnd_of (r_67_5 hW1), ↓gd_pos f72, nI_z, ← hM2]
  rw [show n + 2 = m + 1 by omega, show n + 1 = m by omega, st]
  have FM2 : Fr S6q M0 M2 := F.trans (F02.mono (fun a k q => by unfold S67 at q; unfold S6q S67; omega))
  by_cases h2 : opl lr p = 2
  · have q2 : (nI (opl lr p) = (2 : Int32)) = True := eq_true (by rw [h2]; rfl)
    have e73 : M2.2.2.1 73 d = x0 := (F02.int (by unfold S67; omega)).trans (h73 h2)
    have y5 := c_atG hW2 m (a := 73) (by omega) (s_73 hW2) hd2 (by omega)
    rw [e73] at y5
    obtain ⟨M3, y6, F3, N3⟩ := c_setFrom (n := m) hW2 N2 (w := 0) (by omega) x0
    have y6' : f_X4_setFrom m 67 (nI acc.length) 0 x0 M2 = some ((), M3) := y6
    have y3b := y3 FM2
    refine ⟨M3, 1, _, ?_, F02.trans (F3.mono (fun a k q => Or.inl q)), N3, (F3.int (by unfold S67; omega)).trans g2, Or.inl ⟨h2, rfl, rfl, rfl, rfl⟩⟩
    refine (ge_X4_endNode_65 (m + 1) 67 40 (nI p) (nI (opl lr p)) (nI acc.length) M2).trans ?_
    unfold T_X4_endNode_65
    simp (disch := omega) only [q2, ↓reduceIte, ↓gd_pos (fO67 hW2), ↓bnd_of (r_67_6 hW2), ↓gd_pos (fO40 hW2), ↓bnd2_of (show cal (m + 1) (fun zz => f_X3_depthOf zz 40 (nI p) M2) = _ from y3b), ↓bnd2_of (show cal (m + 1) (fun zz => f_X10_at zz 73 (nI d) M2) = _ from y5), ↓bnd2_of (show cal (m + 1) (fun zz => f_X4_setFrom zz 67 (nI acc.length) 0 x0 M2) = _ from y6'), nI_1]
    rfl
  · have q2 : (nI (opl lr p) = (2 : Int32)) = False := eq_false (fun z => h2 ((nI_eq (b := 2) (by omega) (by omega)).mp z))
    refine ⟨M2, 0, _, ?_, F02, N2, g2, Or.inr ⟨h2, rfl, rfl, rfl, rfl⟩⟩
    refine (ge_X4_endNode_65 (m + 1) 67 40 (nI p) (nI (opl lr p)) (nI acc.length) M2).trans ?_
    unfold T_X4_endNode_65
    simp (disch := omega) only [q2, ↓reduceIte, nI_1]
    rfl
end FL5
