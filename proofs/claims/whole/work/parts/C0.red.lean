/-! A STEP in the class -/
section RDC
variable {c sr tg : Nat} {ls : List (Nat × Tm)}
theorem PtS.i41 {M M1 : Mem} {l : List (Nat × Tm)} (h : PtS M c sr tg ls l) (hF : Fr (SO tg) M M1) {a i : Nat} (h1 : 41 ≤ a) (h2 : a < 50) : M1.2.2.1 a i = M.2.2.1 a i := hF.int (fun q => by have := SO.n42 h.1.2.2.1 q; omega)
theorem PtS.ed {M M1 : Mem} {l : List (Nat × Tm)} (h : PtS M c sr tg ls l) (hF : Fr (SO tg) M M1) {t : Tm} (ht : isT t) {p : Nat} (hE : Ed M t p) : Ed M1 t p := hE.congr t ht (fun i _ _ => h.i41 hF (by omega) (by omega))
theorem PtS.dC {M M1 : Mem} {l : List (Nat × Tm)} (h : PtS M c sr tg ls l) (hF : Fr (SO tg) M M1) : dC M1 = dC M := dC_fq hF.q (fun k x => by have := x.not_low h.1.2.2.1; omega) (fun k x => by have := x.not_low h.1.2.2.1; omega) (fun k x => by have := x.not_low h.1.2.2.1; omega)
theorem c_copyPlain (hnm : ∀ nd, nd ∈ ls → nmB nd) (m : Nat) {i e : Nat} (he : e ≤ ls.length) (hi : i ≤ e) {M : Mem} {l : List (Nat × Tm)} (h : PtS M c sr tg ls l) : ∃ M1, f_X7_copyPlain (m + 2) 53 (nI i) (nI e) M = some ((), M1) ∧ Fr (SO tg) M M1 ∧ TgC M1 tg c (l ++ (ls.drop i).take (e - i)) := by
  obtain ⟨M1, e1, F1, G1⟩ := c_copyDeeper hnm m (lv := 0) (w := 0) he hi (by omega) (by omega) h.1
  rw [map_00] at G1
  refine ⟨M1, ?_, F1, G1⟩
  obtain ⟨q, hq⟩ : ∃ q, q = m + 1 := ⟨_, rfl⟩
  rw [show m + 1 = q by omega] at e1
  rw [show m + 2 = q + 1 by omega]
  show T_X7_copyPlain_0 (fun v M => some (v, M)) none (q + 1) 53 (nI i) (nI e) M = _
  unfold T_X7_copyPlain_0
  have e1' : f_X7_copyDeeper q 53 sr (nI i) (nI e) 0 0 M = some ((), M1) := e1
  simp only [↓gd_pos (fO_53 h.1.1), ↓bnd_of h.2, ↓bnd2_of (show cal (q + 1) (fun zz => f_X7_copyDeeper zz 53 sr (nI i) (nI e) 0 0 M) = _ from e1')]
theorem c_copyTerm (hnm : ∀ nd, nd ∈ ls → nmB nd) (m : Nat) {i e : Nat} {t : Tm} (hS : Sb ls i t) (he : e = i + sz t) {M : Mem} {l : List (Nat × Tm)} (h : PtS M c sr tg ls l) : ∃ M1, f_X7_copyPlain (m + 2) 53 (nI i) (nI e) M = some ((), M1) ∧ Fr (SO tg) M M1 ∧ TgC M1 tg c (l ++ rws t) := by
  have hle := hS.le
  obtain ⟨M1, e1, F1, G1⟩ := c_copyPlain hnm m (i := i) (e := e) (by omega) (by omega) h
  rw [show e - i = sz t by omega, seg_sb hS] at G1
  exact ⟨M1, e1, F1, G1⟩
noncomputable abbrev lpV (m j e p k : Nat) (M : Mem) : Option (Unit × Mem) := lp (st_X7_moveOut (m + 2)) (53, [.ref 53, .int (nI j), .int (nI (j + 1)), .int (nI e), .int (nI p), .int (nI k)], M)
def rst (ls : List (Nat × Tm)) (e i E : Nat) : List (Nat × Tm) := ((ls.drop i).take (E - i)).map (lfn e 1)
theorem mo_one (hnm : ∀ nd, nd ∈ ls → nmB nd) (m : Nat) {j e E I p k : Nat} {a : Tm} (ha : isT a) (hS : Sb ls p a) (hj : j < ls.length) (hI : I ≤ E) (hE : E ≤ ls.length) (he : e < 1000) (hk : k < 2) {M : Mem} {l : List (Nat × Tm)} (h : PtS M c sr tg ls l) (hEd : Ed M a p) (h41 : M.2.2.1 41 j = nI E) (h41i : M.2.2.1 41 (j + 1) = nI I) (hj1 : j + 1 < ls.length) : ∃ M1, lpV m j e p k M = lpV m j e (p + sz a) (k + 1) M1 ∧ Fr (SO tg) M M1 ∧ TgC M1 tg c (l ++ ([(opl ls j, lbl ls j)] ++ rws a ++ rst ls e I E)) := by
  have hl := h.1.2.2.2.2.1.2.1
  have hp := sz_pos a ha
  have hle := hS.le
  have hW := h.1.1
  have hsr := h.1.2.1
  have htg := h.1.2.2.1
  have hR := h.1.2.2.2.2.1
  obtain ⟨q, hq⟩ : ∃ q, q = m + 1 := ⟨_, rfl⟩
  have y1 := c_endOf hW q (i := p) (by omega)
  rw [hEd.at_ a ha] at y1
  have y2 := c_opAt hW hsr hR q hj
  have y3 := c_argAt hW hsr hR q hj
  have hor := hR.2.2.1.at_ hj
  obtain ⟨M1, y4, F1, G1⟩ := c_add hW htg h.1.2.2.2.2.2.2 q hor.1 hor.2 (hR.ag hj)
  have h1 := h.add F1 G1
  obtain ⟨M2, y5, F2, G2⟩ := c_copyDeeper hnm m (i := p) (e := p + sz a) (lv := 0) (w := 0) hle (by omega) (by omega) (by omega) h1.1
  rw [map_00, show p + sz a - p = sz a by omega, seg_sb hS] at G2
  have h2 := h1.add F2 G2
  have F02 := F1.trans F2
  have hW2 := h2.1.1
  have hW1 := h1.1.1
  have y6 := c_endOf hW2 q (i := j + 1) (by omega)
  have y7 := c_endOf hW2 q (i := j) (by omega)
  rw [h.i41 F02 (by omega) (by omega), h41i] at y6
  rw [h.i41 F02 (by omega) (by omega), h41] at y7
  obtain ⟨M3, y8, F3, G3⟩ := c_copyDeeper hnm m (i := I) (e := E) (lv := e) (w := 1) hE hI he (by omega) h2.1
  rw [show m + 1 = q by omega] at y5 y8
  refine ⟨M3, ?_, F02.trans F3, ?_⟩
  · unfold lpV
    rw [show m + 2 = q + 1 by omega]
    refine (ge_X7_moveOut_53 (q + 1) 53 (nI j) (nI (j + 1)) (nI e) (nI p) (nI k) M).trans ?_
    unfold T_X7_moveOut_53
    have y5' : f_X7_copyDeeper q 53 sr (nI p) (nI (p + sz a)) 0 0 M1 = some ((), M2) := y5
    have y8' : f_X7_copyDeeper q 53 sr (nI I) (nI E) (nI e) 1 M2 = some ((), M3) := y8
    simp (disch := omega) only [↓reduceIte, show (2 : Int32) = nI 2 from rfl, nI_le_, eq_false (show ¬ 2 ≤ k by omega), ↓gd_pos (fO_53 hW), ↓gd_pos (fO_53 hW1), ↓gd_pos (fO_53 hW2), ↓bnd_of (r_53_0 hW), ↓bnd_of (r_53_0 hW2), ↓gd_pos (fO_40 hW), ↓gd_pos (fO_40 hW2), ↓bnd_of h.1.2.2.2.2.2.1, ↓bnd_of h.2, ↓bnd_of h1.2, ↓bnd_of h2.2, ↓gd_pos (fO_T hW hsr), ↓gd_pos (fO_T hW htg), ↓bnd2_of (show cal (q + 1) (fun zz => f_X3_endOf zz 40 (nI p) M) = _ from y1), ↓bnd2_of (show cal (q + 1) (fun zz => f_X9_opAt zz sr (nI j) M) = _ from y2), ↓bnd2_of (show cal (q + 1) (fun zz => f_X9_argAt zz sr (nI j) M) = _ from y3), ↓bnd2_of (show cal (q + 1) (fun zz => f_X9_add zz tg (nI (opl ls j)) (M.2.2.1 (sr + 2) j) M) = _ from y4), ↓bnd2_of (show cal (q + 1) (fun zz => f_X7_copyDeeper zz 53 sr (nI p) (nI (p + sz a)) 0 0 M1) = _ from y5'), ↓bnd2_of (show cal (q + 1) (fun zz => f_X3_endOf zz 40 (nI (j + 1)) M2) = _ from y6), ↓bnd2_of (show cal (q + 1) (fun zz => f_X3_endOf zz 40 (nI j) M2) = _ from y7), ↓bnd2_of (show cal (q + 1) (fun zz => f_X7_copyDeeper zz 53 sr (nI I) (nI E) (nI e) 1 M2) = _ from y8'), nI_1]
  · unfold rst
    simpa using G3
theorem c_moveOut (hnm : ∀ nd, nd ∈ ls → nmB nd) (m : Nat) {j e E : Nat} {x a b : Tm} (hx : isT x) (ha : isT a) (hb : isT b) (hS : Sb ls (j + 1) (tC x a b)) (hE1 : j + 1 + sz (tC x a b) ≤ E) (hE : E ≤ ls.length) (he : e < 1000) {M : Mem} {l : List (Nat × Tm)} (h : PtS M c sr tg ls l) (hEd : Ed M (tC x a b) (j + 1)) (h41 : M.2.2.1 41 j = nI E) (h42 : M.2.2.1 42 j = nI e) : ∃ M1, f_X7_moveOut (m + 2) 53 (nI j) M = some ((), M1) ∧ Fr (SO tg) M M1 ∧ TgC M1 tg c (l ++ ([(9, .null)] ++ rws x ++ ([(opl ls j, lbl ls j)] ++ rws a ++ rst ls e (j + 1 + sz (tC x a b)) E) ++ ([(opl ls j, lbl ls j)] ++ rws b ++ rst ls e (j + 1 + sz (tC x a b)) E))) := by
  have hl := h.1.2.2.2.2.1.2.1
  have hW := h.1.1
  have htg := h.1.2.2.1
  obtain ⟨hS0, hS1, hS2, hS3⟩ := hS.C
  obtain ⟨hE0, hEx, hEa, hEb⟩ := hEd
  have px := sz_pos x hx
  have hle := hS.le
  rw [sz_C] at hle hE1 ⊢
  have h41i : M.2.2.1 41 (j + 1) = nI (j + 1 + (sz x + sz a + sz b + 1)) := by
    rw [hE0, show j + 1 + 1 + sz x + sz a + sz b = j + 1 + (sz x + sz a + sz b + 1) by omega]
  obtain ⟨q, hq⟩ : ∃ q, q = m + 1 := ⟨_, rfl⟩
  have y1 := c_depthOf hW q (i := j) (by omega)
  rw [h42] at y1
  have y2 := c_endOf hW q (i := j + 1 + 1) (by omega)
  rw [hEx.at_ x hx] at y2
  obtain ⟨M1, y3, F1, G1⟩ := c_add hW htg h.1.2.2.2.2.2.2 q (o := 9) (lb := .null) (g := 0) (by omega) (by omega) ⟨fun q => (by cases q), fun q => (by unfold tf at q; simp at q), fun _ _ => rfl⟩
  have h1 := h.add F1 G1
  obtain ⟨M2, y4, F2, G2⟩ := c_copyDeeper hnm m (i := j + 1 + 1) (e := j + 1 + 1 + sz x) (lv := 0) (w := 0) (by omega) (by omega) (by omega) (by omega) h1.1
  rw [map_00, show j + 1 + 1 + sz x - (j + 1 + 1) = sz x by omega, seg_sb hS1] at G2
  rw [show m + 1 = q by omega] at y4
  have h2 := h1.add F2 G2
  have F02 := F1.trans F2
  obtain ⟨M3, y5, F3, G3⟩ := mo_one hnm m ha hS2 (j := j) (e := e) (E := E) (I := j + 1 + (sz x + sz a + sz b + 1)) (k := 0) (by omega) hE1 hE he (by omega) h2 (h.ed F02 ha hEa) ((h.i41 F02 (by omega) (by omega)).trans h41) ((h.i41 F02 (by omega) (by omega)).trans h41i) (by omega)
  have h3 := h2.add F3 G3
  have F03 := F02.trans F3
  obtain ⟨M4, y6, F4, G4⟩ := mo_one hnm m hb hS3 (j := j) (e := e) (E := E) (I := j + 1 + (sz x + sz a + sz b + 1)) (k := 1) (by omega) hE1 hE he (by omega) h3 (h.ed F03 hb hEb) ((h.i41 F03 (by omega) (by omega)).trans h41) ((h.i41 F03 (by omega) (by omega)).trans h41i) (by omega)
  refine ⟨M4, ?_, F03.trans F4, ?_⟩
  · have e0 : f_X7_moveOut (m + 2) 53 (nI j) M = lpV m j e (j + 1 + 1 + sz x) 0 M2 := by
      unfold lpV
      rw [show m + 2 = q + 1 by omega]
      refine (ge_X7_moveOut_0 (q + 1) 53 (nI j) M).trans ?_
      unfold T_X7_moveOut_0
      have y3' : f_X9_add q tg 9 0 M = some ((), M1) := y3
      have y4' : f_X7_copyDeeper q 53 sr (nI (j + 1 + 1)) (nI (j + 1 + 1 + sz x)) 0 0 M1 = some ((), M2) := y4
      simp (disch := omega) only [↓reduceIte, nI_1, ↓gd_pos (fO_53 hW), ↓gd_pos (fO_53 h1.1.1), ↓bnd_of (r_53_0 hW), ↓gd_pos (fO_40 hW), ↓bnd_of h.1.2.2.2.2.2.1, ↓bnd_of h1.2, ↓gd_pos (fO_T hW htg), ↓bnd2_of (show cal (q + 1) (fun zz => f_X3_depthOf zz 40 (nI j) M) = _ from y1), ↓bnd2_of (show cal (q + 1) (fun zz => f_X3_endOf zz 40 (nI (j + 1 + 1)) M) = _ from y2), ↓bnd2_of (show cal (q + 1) (fun zz => f_X9_add zz tg 9 0 M) = _ from y3'), ↓bnd2_of (show cal (q + 1) (fun zz => f_X7_copyDeeper zz 53 sr (nI (j + 1 + 1)) (nI (j + 1 + 1 + sz x)) 0 0 M1) = _ from y4')]
      rfl
    refine e0.trans (y5.trans (y6.trans ?_))
    unfold lpV
    refine (ge_X7_moveOut_53 (m + 2) 53 (nI j) (nI (j + 1)) (nI e) (nI _) (nI (1 + 1)) M4).trans ?_
    unfold T_X7_moveOut_53
    rw [if_pos (show (2 : Int32) ≤ nI (1 + 1) by decide)]
  · simpa using G4
end RDC
