/-! SPELLING: a term, in the class -/
def isNm (H : List (Nat × Fm)) : Prop := ∀ j, (hj : j < H.length) → ∃ f c, ltsOk f c ∧ H[j].1 = nmc f c
/-- what a case tells ahead of a term with parent pa, rank r -/
def CaC (lr : List (Nat × Tm)) (pa : Int32) (r d : Nat) (ca : List (List Nat)) : Prop := (pa = -1 ∧ ca = []) ∨ ∃ q, q < lr.length ∧ pa = nI q ∧ r < 10 ∧ ((amN (opl lr q) r = 0 ∧ ca = []) ∨ (amN (opl lr q) r = 1 ∧ opl lr q ≠ 9 ∧ ca = []) ∨ (amN (opl lr q) r = 1 ∧ opl lr q = 9 ∧ ca = [lvl (d - 1)] ∧ 1 ≤ d))
def NwP (H : List (Nat × Fm)) (lb : Tm) (w : List Nat) : Prop := (∃ k, k < 201 ∧ lb = .index k ∧ w = lvl k) ∨ ∃ k, k < H.length ∧ lb = .arg k ∧ w = nmH H k
section PT1
variable {M M0 M1 : Mem} {tr c q p pr d r nn : Nat} {pa : Int32} {l : List Nat} {lr : List (Nat × Tm)} {H : List (Nat × Fm)}
theorem LtC.s6 (h : LtC M tr c lr) (hF : Fr S66 M M1) : LtC M1 tr c lr := by
  obtain ⟨h1, h2, h3, h4⟩ := h
  have hT : tr ≠ 66 ∧ tr + 1 ≠ 66 ∧ tr + 2 ≠ 66 := by
    unfold TOb at h3
    omega
  refine ⟨hF.Wd h1, by rw [hF.2.2.1]; exact h2, h3, h4.mv (hF.int (by unfold S66; omega)) (hF.ints (by unfold S66; omega)) (hF.ints (by unfold S66; omega)) (fun i _ => ?_) (Nat.le_refl _)⟩
  rw [dC_fq hF.q (by unfold S66; omega) (by unfold S66; omega) (by unfold S66; omega)]
theorem TabC.s6 (hT : TabC M c) (F1 : Fr S66 M M1) : TabC M1 c ∧ ∀ i, dC M1 i = dC M i := hT.fr F1 (by unfold S66; omega) (by unfold S66; omega) (by unfold S66; omega) (by unfold S66; omega) (by unfold S66; omega) (by unfold S66; omega) (by unfold S66; omega)
theorem HyC.s6 (h : HyC M 10 c H) (hF : Fr S66 M M1) (hd : ∀ i, dC M1 i = dC M i) : HyC M1 10 c H := h.up hF (fun a k q => by unfold S66 at q; omega) (fun i _ => hd i) (Nat.le_refl _)
theorem c_putMeaning (hW : Wd M) (hH : HyC M 10 c H) (hN : isNm H) (k : Nat) (h : SpS M q l) {lb : Tm} {w : List Nat} (hw : NwP H lb w) (hl : l.length + 10 < 1152921504606846976) : ∃ M1, f_X8_putMeaning (k + 3) 66 (nv lb) M = some ((), M1) ∧ Fr S66 M M1 ∧ SpS M1 q (spB l ++ w) := by
  obtain ⟨g, hg⟩ : ∃ g, g = nv lb := ⟨_, rfl⟩
  rw [← hg]
  have h6 := hH.2.1
  have hO : fO M 66 8 := ⟨by rw [hW.1]; omega, s_66 hW⟩
  have hO2 : fO M 10 2 := ⟨by rw [hW.1]; omega, s_10 hW⟩
  obtain ⟨n, hn⟩ : ∃ n, n = k + 2 := ⟨_, rfl⟩
  rw [show k + 3 = n + 1 by omega]
  rcases hw with ⟨j, hj, h1, h2⟩ | ⟨j, hj, h1, h2⟩
  · have hgk : g = nI j := by rw [hg, h1]; rfl
    obtain ⟨M1, e1, F1, S1⟩ := c_putLevel hW k h hj hl
    rw [← hn, ← hgk] at e1
    have hge : ((0 : Int32) ≤ g) = True := eq_true (by rw [hgk, show (0 : Int32) = nI 0 from rfl, nI_le_ (by omega) (by omega)]; omega)
    refine ⟨M1, ?_, F1, by rw [h2]; exact S1⟩
    unfold f_X8_putMeaning b_X8_putMeaning T_X8_putMeaning_0
    simp (disch := omega) only [hge, ↓reduceIte, ↓gd_pos hO, ↓bnd2_of (show cal (n + 1) (fun zz => f_X8_putLevel zz 66 g M) = _ from e1)]
  · have hgk : g = -1 - nI j := by rw [hg, h1]; rfl
    have hgi : -1 - g = nI j := by rw [hgk]; exact neg_n1 j
    have hge : ((0 : Int32) ≤ g) = False := eq_false (by rw [hgk]; exact Int32.not_le.mpr (hy_neg (by omega)))
    obtain ⟨f, cc, n1, n2⟩ := hN j hj
    have e0 := c_nameOf10 hW n hH hj
    obtain ⟨M1, e1, F1, S1⟩ := c_putName hW (k + 1) h n1 hl
    rw [show k + 1 + 1 = n by omega] at e1
    obtain ⟨u, hu⟩ : ∃ u, u = nI (nmc f cc) := ⟨_, rfl⟩
    rw [n2, ← hgi, ← hu] at e0
    rw [← hu] at e1
    obtain ⟨y, hy⟩ : ∃ y, y = -1 - g := ⟨_, rfl⟩
    rw [← hy] at e0
    refine ⟨M1, ?_, F1, by rw [h2, nmH_at hj, n2, nsp_is n1]; exact S1⟩
    clear hgk hgi hg
    unfold f_X8_putMeaning b_X8_putMeaning T_X8_putMeaning_0
    simp (disch := omega) only [hge, ↓reduceIte, ↓gd_pos hO, ↓bnd_of (r_66_1 hW), ↓gd_pos hO2, ← hy, ↓bnd2_of (show cal (n + 1) (fun zz => f_X2_nameOf zz 10 y M) = _ from e0), ↓bnd2_of (show cal (n + 1) (fun zz => f_X8_putName zz 66 u M) = _ from e1)]
noncomputable abbrev lpYt (n : Nat) (x2 : Int32) (tr i : Nat) (M : Mem) : Option (Unit × Mem) := lp (st_X8_putTerm (n + 1)) (8, [.ref 66, .ref 40, .int x2, .ref tr, .int (nI i)], M)
noncomputable abbrev lpYu (z n : Nat) (x2 : Int32) (tr i : Nat) (o g : Int32) (M : Mem) : Option (Unit × Mem) := lp (st_X8_putTerm (n + 1)) (z, [.ref 66, .ref 40, .int x2, .ref tr, .int (nI i), .int o, .int g], M)
theorem fO66 (hW : Wd M) : fO M 66 8 := ⟨by rw [hW.1]; omega, s_66 hW⟩
theorem fO40 (hW : Wd M) : fO M 40 3 := ⟨by rw [hW.1]; omega, s_40 hW⟩
theorem fOT (hW : Wd M) (hT : TOb tr) : fO M tr 9 := ⟨by rw [hW.1]; exact (TO_at hW hT).2.2.2.2.2.1, (TO_at hW hT).1⟩
theorem at2.s6 (h : at2 M p d pa r nn) (hF : Fr S66 M M1) : at2 M1 p d pa r nn := ⟨(hF.int (by unfold S66; omega)).trans h.1, (hF.int (by unfold S66; omega)).trans h.2.1, (hF.int (by unfold S66; omega)).trans h.2.2.1, (hF.int (by unfold S66; omega)).trans h.2.2.2⟩
/-- up to the node's own: what the case tells -/
theorem ptm_A (hL : LtC M tr c lr) (hS : SpS M q l) (h4 : M.2.2.1 66 4 = -1) (hp : p < lr.length) (h2 : at2 M p d pa r nn) {ca : List (List Nat)} (hc : CaC lr pa r d ca) (hd : d < 201) (n : Nat) (hn : 3 ≤ n) (x2 : Int32) (hl : l.length + 30 < 576460752303423488) : ∃ M1, lpYt n x2 tr p M = lpYu 77 n x2 tr p (nI (opl lr p)) (M.2.2.1 (tr + 2) p) M1 ∧ Fr S66 M M1 ∧ SpS M1 q (tls l ca) := by
  have hW := hL.1
  have hT := hL.2.2.1
  have hR := hL.2.2.2
  have hlr := hR.2.1
  have hO := fOT hW hT
  have h66 := fO66 hW
  have h40 := fO40 hW
  have e1 := c_opAt hW hT hR n hp
  have e2 := c_argAt hW hT hR n hp
  obtain ⟨g, hg⟩ : ∃ g, g = M.2.2.1 (tr + 2) p := ⟨_, rfl⟩
  rw [← hg] at e2 ⊢
  have hle : (nI lr.length ≤ nI p) = False := eq_false (by rw [nI_le_ (by omega) (by omega)]; omega)
  have g1 : lpYt n x2 tr p M = _ := ge_X8_putTerm_8 (n + 1) 66 40 x2 tr (nI p) M
  obtain ⟨m, hm⟩ : ∃ m, n = m + 1 := ⟨n - 1, by omega⟩
  rcases hc with ⟨c1, c2⟩ | ⟨u, u1, u2, u3, u4⟩
  · have e3 := c_isArmG hL m (am := 0) (by omega) h2 (Or.inl ⟨c1, rfl⟩)
    rw [← hm] at e3
    refine ⟨M, ?_, Fr.refl, by rw [c2, tls_nil]; exact hS⟩
    rw [g1]
    unfold T_X8_putTerm_8
    simp (disch := omega) only [↓gd_pos hO, hR.1, hle, ↓reduceIte, ↓gd_pos h66, h4, ↓bnd2_of (show cal (n + 1) (fun zz => f_X9_opAt zz tr (nI p) M) = _ from e1), ↓bnd2_of (show cal (n + 1) (fun zz => f_X9_argAt zz tr (nI p) M) = _ from e2), ↓gd_pos h40, ↓bnd2_of (show cal (n + 1) (fun zz => f_X3_isArm zz 40 (nI p) M) = _ from e3), show (nI 0 = (0 : Int32)) = True from eq_true rfl]
  · rcases u4 with ⟨a1, a2⟩ | ⟨a1, a3, a2⟩ | ⟨a1, a3, a2, a4⟩
    · have e3 := c_isArmG hL m (am := 0) (by omega) h2 (Or.inr ⟨u, u1, u2, u3, a1.symm⟩)
      rw [← hm] at e3
      refine ⟨M, ?_, Fr.refl, by rw [a2, tls_nil]; exact hS⟩
      rw [g1]
      unfold T_X8_putTerm_8
      simp (disch := omega) only [↓gd_pos hO, hR.1, hle, ↓reduceIte, ↓gd_pos h66, h4, ↓bnd2_of (show cal (n + 1) (fun zz => f_X9_opAt zz tr (nI p) M) = _ from e1), ↓bnd2_of (show cal (n + 1) (fun zz => f_X9_argAt zz tr (nI p) M) = _ from e2), ↓gd_pos h40, ↓bnd2_of (show cal (n + 1) (fun zz => f_X3_isArm zz 40 (nI p) M) = _ from e3), show (nI 0 = (0 : Int32)) = True from eq_true rfl]
    · have e3 := c_isArmG hL m (am := 1) (by omega) h2 (Or.inr ⟨u, u1, u2, u3, a1.symm⟩)
      rw [← hm] at e3
      have e5 := c_parentOf hW n (i := p) (by omega)
      rw [h2.2.1, u2] at e5
      have e6 := c_opAt hW hT hR n u1
      have hor := hR.2.2.1.at_ u1
      have q9 : (nI (opl lr u) = (9 : Int32)) = False := eq_false (fun z => by have := (nI_eq (b := 9) (by omega) (by omega)).mp z; omega)
      refine ⟨M, ?_, Fr.refl, by rw [a2, tls_nil]; exact hS⟩
      rw [g1]
      unfold T_X8_putTerm_8
      simp (disch := omega) only [↓gd_pos hO, hR.1, hle, ↓reduceIte, ↓gd_pos h66, h4, ↓bnd2_of (show cal (n + 1) (fun zz => f_X9_opAt zz tr (nI p) M) = _ from e1), ↓bnd2_of (show cal (n + 1) (fun zz => f_X9_argAt zz tr (nI p) M) = _ from e2), ↓gd_pos h40, ↓bnd2_of (show cal (n + 1) (fun zz => f_X3_isArm zz 40 (nI p) M) = _ from e3), show (nI 1 = (0 : Int32)) = False from eq_false (by decide), ↓bnd2_of (show cal (n + 1) (fun zz => f_X3_parentOf zz 40 (nI p) M) = _ from e5), ↓bnd2_of (show cal (n + 1) (fun zz => f_X9_opAt zz tr (nI u) M) = _ from e6), q9]
    · have e3 := c_isArmG hL m (am := 1) (by omega) h2 (Or.inr ⟨u, u1, u2, u3, a1.symm⟩)
      rw [← hm] at e3
      have e5 := c_parentOf hW n (i := p) (by omega)
      rw [h2.2.1, u2] at e5
      have e6 := c_opAt hW hT hR n u1
      have q9 : (nI (opl lr u) = (9 : Int32)) = True := eq_true (by rw [a3]; rfl)
      have e7 := c_depthOf hW n (i := p) (by omega)
      rw [h2.1] at e7
      obtain ⟨M1, e8, F1, S1⟩ := c_putLevel hW (n - 2) hS (v := d - 1) (by omega) (by omega)
      rw [show n - 2 + 2 = n by omega, ← nI_sub a4 (by omega)] at e8
      have e8 : f_X8_putLevel n 66 (nI d - 1) M = some ((), M1) := e8
      refine ⟨M1, ?_, F1, by rw [a2, tls_cons, tls_nil]; exact S1⟩
      rw [g1]
      unfold T_X8_putTerm_8
      simp (disch := omega) only [↓gd_pos hO, hR.1, hle, ↓reduceIte, ↓gd_pos h66, h4, ↓bnd2_of (show cal (n + 1) (fun zz => f_X9_opAt zz tr (nI p) M) = _ from e1), ↓bnd2_of (show cal (n + 1) (fun zz => f_X9_argAt zz tr (nI p) M) = _ from e2), ↓gd_pos h40, ↓bnd2_of (show cal (n + 1) (fun zz => f_X3_isArm zz 40 (nI p) M) = _ from e3), show (nI 1 = (0 : Int32)) = False from eq_false (by decide), ↓bnd2_of (show cal (n + 1) (fun zz => f_X3_parentOf zz 40 (nI p) M) = _ from e5), ↓bnd2_of (show cal (n + 1) (fun zz => f_X9_opAt zz tr (nI u) M) = _ from e6), q9, ↓bnd2_of (show cal (n + 1) (fun zz => f_X3_depthOf zz 40 (nI p) M) = _ from e7), ↓bnd2_of (show cal (n + 1) (fun zz => f_X8_putLevel zz 66 (nI d - 1) M) = _ from e8)]
/-- the node's own -/
theorem ptm_B (hL : LtC M tr c lr) (hT : TabC M c) (hH : HyC M 10 c H) (hN : isNm H) (hS : SpS M q l) (hp : p < lr.length) (h2 : at2 M p d pa r nn) (hd : d < 201) (n : Nat) (hn : 9 ≤ n) {x2 : Int32} (hx : (pr = 0 → x2 = 1) ∧ (pr ≠ 0 → x2 = 0)) {w : List (List Nat)} (hw : (opl lr p = 1 ∧ ∃ v, NwP H (lbl lr p) v ∧ w = [v]) ∨ (opl lr p ≠ 1 ∧ w = own pr (opl lr p) (lbl lr p) d)) (hl : (tls l w).length + 30 < 576460752303423488) : ∃ M1, lpYu 77 n x2 tr p (nI (opl lr p)) (M.2.2.1 (tr + 2) p) M = lpYt n x2 tr (p + 1) M1 ∧ Fr S66 M M1 ∧ SpS M1 q (tls l w) := by
  have hW := hL.1
  have hOb := hL.2.2.1
  have hR := hL.2.2.2
  have hlr := hR.2.1
  have hor := hR.2.2.1.at_ hp
  have hag := (hR.2.2.2 p _ (opl_get hp)).2
  obtain ⟨g, hg⟩ : ∃ g, g = M.2.2.1 (tr + 2) p := ⟨_, rfl⟩
  rw [← hg] at hag ⊢
  obtain ⟨o, hoe⟩ : ∃ o, o = opl lr p := ⟨_, rfl⟩
  rw [← hoe] at hw hor hag ⊢
  have g77 : ∀ (M : Mem), lpYu 77 n x2 tr p (nI o) g M = _ := fun M => ge_X8_putTerm_77 (n + 1) 66 40 x2 tr (nI p) (nI o) g M
  have g101 : ∀ (M : Mem), lpYu 101 n x2 tr p (nI o) g M = _ := fun M => ge_X8_putTerm_101 (n + 1) 66 40 x2 tr (nI p) (nI o) g M
  have g117 : ∀ (M : Mem), lpYu 117 n x2 tr p (nI o) g M = _ := fun M => ge_X8_putTerm_117 (n + 1) 66 40 x2 tr (nI p) (nI o) g M
  have pl : ∀ (a b : List (List Nat)), w = a ++ b → (tls l a).length + 30 < 576460752303423488 := by
    intro a b hab
    rw [hab, tls_app] at hl
    obtain ⟨s, hs⟩ := tls_pre b (tls l a)
    rw [hs, List.length_append] at hl
    omega
  have hl0 := pl [] w rfl
  rw [tls_nil] at hl0
  -- no formula is told
  have skip : ∀ (M : Mem), (pr ≠ 0 ∨ ¬ (o = 2 ∨ o = 7 ∨ o = 8 ∨ o = 10)) → lpYu 117 n x2 tr p (nI o) g M = lpYt n x2 tr (p + 1) M := by
    intro M hh
    rw [g117]
    unfold T_X8_putTerm_117
    by_cases hp0 : pr = 0
    · have et := c_tellsF (M := M) n (o := o) (by omega)
      rw [if_neg (by omega)] at et
      simp (disch := omega) only [hx.1 hp0, show ((1 : Int32) = 0) = False from eq_false (by decide), ↓reduceIte, ↓bnd2_of (show cal (n + 1) (fun zz => f_X10_tellsFormula zz (nI o) M) = _ from et), nI_1]
    · simp (disch := omega) only [hx.2 hp0, ↓reduceIte, nI_1]
  rcases hw with ⟨ho1, v, hv, hwv⟩ | ⟨ho1, hwv⟩
  · subst hwv
    rw [tls_cons, tls_nil]
    obtain ⟨M1, e1, F1, S1⟩ := c_putMeaning hW hH hN (n - 3) hS hv (by omega)
    rw [show n - 3 + 3 = n by omega, ← hag.1 ho1] at e1
    refine ⟨M1, ?_, F1, S1⟩
    rw [g77]
    unfold T_X8_putTerm_77
    have q1 : (nI o = (1 : Int32)) = True := eq_true (by rw [ho1]; rfl)
    have q2 : (nI o = (2 : Int32)) = False := eq_false (by rw [ho1]; decide)
    simp (disch := omega) only [q1, ↓reduceIte, ↓gd_pos (fO66 hW), ↓bnd2_of (show cal (n + 1) (fun zz => f_X8_putMeaning zz 66 g M) = _ from e1)]
    show lpYu 101 n x2 tr p (nI o) g M1 = _
    rw [g101]
    unfold T_X8_putTerm_101
    simp (disch := omega) only [q2, ↓reduceIte]
    exact skip M1 (Or.inr (by omega))
  · have hb0 := pl [wrd (o + 11)] _ (by rw [hwv]; rfl)
    have hb1 := pl (wrd (o + 11) :: (if o = 2 then [lvl d] else [])) _ (by rw [hwv]; rfl)
    rw [hwv] at hl ⊢
    unfold own at hl ⊢
    rw [tls_cons, tls_app] at hl ⊢
    rw [tls_cons, tls_nil] at hb0
    rw [tls_cons] at hb1
    obtain ⟨M1, e1, F1, S1⟩ := c_putWord hW (n - 6) hS (w := o + 11) (by omega) (by omega)
    rw [show n - 6 + 6 = n by omega, ← nI_add] at e1
    have e1 : f_X8_putWord n 66 (nI o + 11) M = some ((), M1) := e1
    have hW1 := F1.Wd hW
    have q1 : (nI o = (1 : Int32)) = False := eq_false (fun z => by have := (nI_eq (b := 1) (by omega) (by omega)).mp z; omega)
    have st1 : lpYu 77 n x2 tr p (nI o) g M = lpYu 101 n x2 tr p (nI o) g M1 := by
      rw [g77]
      unfold T_X8_putTerm_77
      simp (disch := omega) only [q1, ↓reduceIte, ↓gd_pos (fO66 hW), ↓bnd2_of (show cal (n + 1) (fun zz => f_X8_putWord zz 66 (nI o + 11) M) = _ from e1)]
    rw [st1]
    have mid : ∃ M2, lpYu 101 n x2 tr p (nI o) g M1 = lpYu 117 n x2 tr p (nI o) g M2 ∧ Fr S66 M M2 ∧ SpS M2 q (tls (spB l ++ wrd (o + 11)) (if o = 2 then [lvl d] else [])) := by
      by_cases ho2 : o = 2
      · have q2 : (nI o = (2 : Int32)) = True := eq_true (by rw [ho2]; rfl)
        rw [if_pos ho2] at hb1 ⊢
        rw [tls_cons, tls_nil] at hb1 ⊢
        have e7 := c_depthOf hW1 n (i := p) (by omega)
        rw [(h2.s6 F1).1] at e7
        obtain ⟨M2, e2, F2, S2⟩ := c_putLevel hW1 (n - 2) S1 hd (by omega)
        rw [show n - 2 + 2 = n by omega] at e2
        refine ⟨M2, ?_, F1.trans F2, S2⟩
        rw [g101]
        unfold T_X8_putTerm_101
        simp (disch := omega) only [q2, ↓reduceIte, ↓gd_pos (fO40 hW1), ↓bnd2_of (show cal (n + 1) (fun zz => f_X3_depthOf zz 40 (nI p) M1) = _ from e7), ↓gd_pos (fO66 hW1), ↓bnd2_of (show cal (n + 1) (fun zz => f_X8_putLevel zz 66 (nI d) M1) = _ from e2)]
      · have q2 : (nI o = (2 : Int32)) = False := eq_false (fun z => by have := (nI_eq (b := 2) (by omega) (by omega)).mp z; omega)
        rw [if_neg ho2, tls_nil]
        refine ⟨M1, ?_, F1, S1⟩
        rw [g101]
        unfold T_X8_putTerm_101
        simp (disch := omega) only [q2, ↓reduceIte]
    obtain ⟨M2, e2, F2, S2⟩ := mid
    rw [e2]
    have hW2 := F2.Wd hW
    by_cases ht : pr = 0 ∧ (o = 2 ∨ o = 7 ∨ o = 8 ∨ o = 10)
    · rw [if_pos ht, tls_cons, tls_nil] at hl ⊢
      obtain ⟨i, i1, i2, i3⟩ := hag.2.1 ht.2
      have i3 : dC M i = lbl lr p := i3
      obtain ⟨T2, d2⟩ := hT.s6 F2
      have hlf := T2.long i1
      rw [d2, i3] at hlf
      rw [List.length_append, hlf] at hl
      obtain ⟨M3, e3, F3, S3⟩ := c_putFormula hW2 T2 (n - 7) S2 i1 (by rw [d2, i3]; omega) (by omega)
      rw [show n - 7 + 7 = n by omega, ← i2] at e3
      rw [d2, i3] at S3
      refine ⟨M3, ?_, F2.trans F3, S3⟩
      rw [g117]
      unfold T_X8_putTerm_117
      have et := c_tellsF (M := M2) n (o := o) (by omega)
      rw [if_pos ht.2] at et
      simp (disch := omega) only [hx.1 ht.1, show ((1 : Int32) = 0) = False from eq_false (by decide), ↓reduceIte, ↓bnd2_of (show cal (n + 1) (fun zz => f_X10_tellsFormula zz (nI o) M2) = _ from et), ↓gd_pos (fO66 hW2), ↓bnd2_of (show cal (n + 1) (fun zz => f_X8_putFormula zz 66 g M2) = _ from e3), nI_1]
    · rw [if_neg ht, tls_nil]
      exact ⟨M2, skip M2 (by omega), F2, S2⟩
end PT1
