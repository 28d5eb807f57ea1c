/-! STEPS in the reference: where nodes end, redexes -/
theorem bh_ar (o : Nat) {a : Nat} (h : a ≤ 3) : nI (o + 1) + (nI a - 1) = nI (o + a) := by
  have : a = 0 ∨ a = 1 ∨ a = 2 ∨ a = 3 := by omega
  rcases this with rfl | rfl | rfl | rfl
  · rw [show nI 0 - 1 = -1 by decide]
    exact nI_m1 o
  · rw [show nI 1 - 1 = 0 by decide, Int32.add_zero]
  · rw [show nI 2 - 1 = nI 1 by decide, nI_add]
  · rw [show nI 3 - 1 = nI 2 by decide, nI_add]
theorem ar_le (o : Nat) : ar o ≤ 3 := by
  unfold ar
  split
  · omega
  · split
    · omega
    · split <;> omega
section RBH
variable {M : Mem} {c : Nat} {l : List (Nat × Tm)}
theorem rx_arityR (k : Nat) {o : Nat} (h1 : 1 ≤ o) (h2 : o ≤ 10) : f_X11_arity k (nI (o - 1)) M = some (nI (ar o), M) := by
  have : o = 1 ∨ o = 2 ∨ o = 3 ∨ o = 4 ∨ o = 5 ∨ o = 6 ∨ o = 7 ∨ o = 8 ∨ o = 9 ∨ o = 10 := by omega
  rcases this with rfl | rfl | rfl | rfl | rfl | rfl | rfl | rfl | rfl | rfl <;> rfl
noncomputable abbrev lpB (k i o : Nat) (M : Mem) : Option (Int32 × Mem) := lp (st_X11_behind (k + 1)) (4, [.ref 89, .int (nI i), .int (nI o)], M)
theorem bh_one (hW : Wd M) (hR : WrkR M c l) (k : Nat) {i o : Nat} (hi : i < l.length) (ho : o < 100000) : lpB k i (o + 1) M = lpB k (i + 1) (o + ar (opl l i)) M := by
  have hl := hR.2.1
  have hor := hR.2.2.1.at_ hi
  have ea := rx_arityR (M := M) k hor.1 hor.2
  have h5 := hR.kd hi
  refine (ge_X11_behind_4 (k + 1) 89 (nI i) (nI (o + 1)) M).trans ?_
  unfold T_X11_behind_4
  have hz : (nI (o + 1) ≤ (0 : Int32)) = False := eq_false (fun q => by have := (nI_leI (b := 0) (by omega) (by omega)).mp q; omega)
  simp (disch := omega) only [↓reduceIte, hz, ↓gd_pos (fO_R hW), ↓bnd_of (r_89_20 hW), ↓gd_pos (fA_R hW (a := 105) (by omega) (s_105 hW) (show i < 400 by omega) (by omega)), nI_z, h5, ↓bnd2_of (show cal (k + 1) (fun zz => f_X11_arity zz (nI (opl l i - 1)) M) = _ from ea), nI_1, bh_ar o (ar_le (opl l i))]
theorem bh_tree (hW : Wd M) (hR : WrkR M c l) (k : Nat) : ∀ t, isT t → ∀ {p o : Nat}, Sb l p t → o + 2 * sz t < 50000 → lpB k p (o + 1) M = lpB k (p + sz t) o M := by
  apply tm_ind
  · intro j p o hS ho
    obtain ⟨g1, g2, g3⟩ := opl_of hS.L
    have := bh_one hW hR k g3 (o := o) (by omega)
    rw [g1] at this
    exact this
  · intro j p o hS ho
    obtain ⟨g1, g2, g3⟩ := opl_of hS.H
    have := bh_one hW hR k g3 (o := o) (by omega)
    rw [g1] at this
    exact this
  · intro w f a hw ha ih p o hS ho
    obtain ⟨g1, g2, g3⟩ := opl_of hS.U.1
    rw [sz_U] at ho ⊢
    have := bh_one hW hR k g3 (o := o) (by omega)
    rw [g1, show ar (w, f).1 = 1 from ar_U hw] at this
    rw [this, ih hS.U.2 (by omega), show p + (sz a + 1) = p + 1 + sz a by omega]
  · intro w a b hw ha hb ia ib p o hS ho
    obtain ⟨g1, g2, g3⟩ := opl_of hS.B.1
    rw [sz_B] at ho ⊢
    have := bh_one hW hR k g3 (o := o) (by omega)
    rw [g1, show ar (w, (Jvm.Term.null : Tm)).1 = 2 from ar_B hw] at this
    rw [this, ia hS.B.2.1 (o := o + 1) (by omega), ib hS.B.2.2 (by omega), show p + (sz a + sz b + 1) = p + 1 + sz a + sz b by omega]
  · intro m a b hm ha hb im ia ib p o hS ho
    obtain ⟨g1, g2, g3⟩ := opl_of hS.C.1
    rw [sz_C] at ho ⊢
    have pm := sz_pos m hm
    have := bh_one hW hR k g3 (o := o) (by omega)
    rw [g1, show ar (9, (Jvm.Term.null : Tm)).1 = 3 from rfl] at this
    rw [this, im hS.C.2.1 (o := o + 1 + 1) (by omega), ia hS.C.2.2.1 (o := o + 1) (by omega), ib hS.C.2.2.2 (by omega), show p + (sz m + sz a + sz b + 1) = p + 1 + sz m + sz a + sz b by omega]
theorem rx_behind (hW : Wd M) (hR : WrkR M c l) (k : Nat) {t : Tm} (ht : isT t) {p : Nat} (hS : Sb l p t) : f_X11_behind (k + 1) 89 (nI p) M = some (nI (p + sz t), M) := by
  have hl := hR.2.1
  have hle := hS.le
  have e := bh_tree hW hR k t ht (o := 0) hS (by omega)
  refine ((ge_X11_behind_0 (k + 1) 89 (nI p) M).trans rfl).trans (e.trans ?_)
  refine (ge_X11_behind_4 (k + 1) 89 _ _ M).trans ?_
  unfold T_X11_behind_4
  rw [if_pos (show nI 0 ≤ (0 : Int32) by decide)]
theorem rx_nodesOf (hW : Wd M) (hR : WrkR M c l) (k : Nat) {t : Tm} (ht : isT t) {p : Nat} (hS : Sb l p t) : f_X11_nodesOf (k + 2) 89 (nI p) M = some (nI (sz t), M) := by
  have hl := hR.2.1
  have hle := hS.le
  obtain ⟨q, hq⟩ : ∃ q, q = k + 1 := ⟨_, rfl⟩
  have e := rx_behind hW hR k ht hS
  rw [show k + 1 = q by omega] at e
  rw [show k + 2 = q + 1 by omega]
  show T_X11_nodesOf_0 (fun v M => some (v, M)) none (q + 1) 89 (nI p) M = _
  unfold T_X11_nodesOf_0
  simp only [↓gd_pos (fO_R hW), ↓bnd2_of (show cal (q + 1) (fun zz => f_X11_behind zz 89 (nI p) M) = _ from e), nI_sb (show p + sz t < 1000000 by omega)]
theorem in_7 (k j i n : Nat) (M : Mem) (h : n < 10) (hj : j < 10) : lp (st_X11_inner k) (7, [.ref 89, .int (nI n), .int (nI i), .int (nI j)], M) = if n ≤ j then some (nI i, M) else lp (st_X11_inner k) (7, [.ref 89, .int (nI n), .int (nI i), .int (nI j)], M) := by
  by_cases q : n ≤ j
  · rw [if_pos q]
    refine (ge_X11_inner_7 k 89 (nI n) (nI i) (nI j) M).trans ?_
    unfold T_X11_inner_7
    simp (disch := omega) only [nI_le_, eq_true q, ↓reduceIte]
  · rw [if_neg q]
theorem in_go (hW : Wd M) (hR : WrkR M c l) (k : Nat) {t : Tm} (ht : isT t) {p n j : Nat} (hS : Sb l p t) (hn : n < 10) (hj : j < n) : lp (st_X11_inner (k + 2)) (7, [.ref 89, .int (nI n), .int (nI p), .int (nI j)], M) = lp (st_X11_inner (k + 2)) (7, [.ref 89, .int (nI n), .int (nI (p + sz t)), .int (nI (j + 1))], M) := by
  obtain ⟨q, hq⟩ : ∃ q, q = k + 1 := ⟨_, rfl⟩
  have e := rx_behind hW hR k ht hS
  rw [show k + 1 = q by omega] at e
  rw [show k + 2 = q + 1 by omega]
  refine (ge_X11_inner_7 (q + 1) 89 (nI n) (nI p) (nI j) M).trans ?_
  unfold T_X11_inner_7
  simp (disch := omega) only [nI_le_, eq_false (show ¬ n ≤ j by omega), ↓reduceIte, ↓gd_pos (fO_R hW), ↓bnd2_of (show cal (q + 1) (fun zz => f_X11_behind zz 89 (nI p) M) = _ from e), nI_1]
theorem in_0 (k i n : Nat) : f_X11_inner k 89 (nI i) (nI n) M = lp (st_X11_inner k) (7, [.ref 89, .int (nI n), .int (nI (i + 1)), .int (nI 0)], M) := by
  refine (ge_X11_inner_0 k 89 (nI i) (nI n) M).trans ?_
  unfold T_X11_inner_0
  rw [nI_1]
  rfl
theorem rx_inner0 (k i : Nat) : f_X11_inner k 89 (nI i) 0 M = some (nI (i + 1), M) := by
  refine (in_0 k i 0).trans ?_
  rw [in_7 _ _ _ _ _ (by omega) (by omega), if_pos (Nat.le_refl _)]
theorem rx_inner1 (hW : Wd M) (hR : WrkR M c l) (k : Nat) {t : Tm} (ht : isT t) {i : Nat} (hS : Sb l (i + 1) t) : f_X11_inner (k + 2) 89 (nI i) 1 M = some (nI (i + 1 + sz t), M) := by
  refine (in_0 (k + 2) i 1).trans ?_
  rw [in_go hW hR k ht hS (by omega) (by omega), in_7 _ _ _ _ _ (by omega) (by omega), if_pos (by omega)]
theorem rx_inner2 (hW : Wd M) (hR : WrkR M c l) (k : Nat) {t u : Tm} (ht : isT t) (hu : isT u) {i : Nat} (hS : Sb l (i + 1) t) (hS2 : Sb l (i + 1 + sz t) u) : f_X11_inner (k + 2) 89 (nI i) 2 M = some (nI (i + 1 + sz t + sz u), M) := by
  refine (in_0 (k + 2) i 2).trans ?_
  rw [in_go hW hR k ht hS (by omega) (by omega), in_go hW hR k hu hS2 (by omega) (by omega), in_7 _ _ _ _ _ (by omega) (by omega), if_pos (by omega)]
def h80 (a b : Int32) : Int32 := if b = 8 then 6 else if b = 9 then 7 else if a = 2 then (if b = 1 then 1 else 0) else if a = 3 then 0 else if a = 4 then (if b = 3 then 2 else 0) else if a = 5 then (if b = 3 then 3 else 0) else if a = 6 then 0 else if a = 7 then 0 else if a = 8 then (if b = 6 then 4 else if b = 7 then 5 else 0) else 0
theorem h80_is : ∀ o, o < 11 → (o = 3 ∨ o = 5 ∨ o = 6 ∨ o = 9 ∨ o = 10) → ∀ i, i < 11 → 1 ≤ i → h80 (nI (o - 1)) (nI (i - 1)) = nI (rdk o i) := by decide +kernel
theorem ra_80 (hW : Wd M) (k : Nat) {i : Nat} (hi : i < 400) (b : Int32) : lp (st_X11_redexAt k) (80, [.ref 89, .int (nI i), .int b, .int 1], M) = some (h80 (M.2.2.1 105 i) b, M) := by
  refine (ge_X11_redexAt_80 k 89 (nI i) b 1 M).trans ?_
  unfold T_X11_redexAt_80
  rw [if_neg (show ¬ (1 : Int32) = 0 by decide)]
  unfold h80
  by_cases c1 : b = 8
  · rw [if_pos c1, if_pos c1]
  · rw [if_neg c1, if_neg c1]
    by_cases c2 : b = 9
    · rw [if_pos c2, if_pos c2]
    · rw [if_neg c2, if_neg c2]
      simp (disch := omega) only [↓gd_pos (fO_R hW), ↓bnd_of (r_89_20 hW), ↓gd_pos (fA_R hW (a := 105) (by omega) (s_105 hW) hi (by omega)), nI_z]
      obtain ⟨a, ha⟩ : ∃ a, a = M.2.2.1 105 i := ⟨_, rfl⟩
      rw [← ha]
      repeat' split
      all_goals first | rfl | contradiction
theorem rx_redexAt (hW : Wd M) (hR : WrkR M c l) (k : Nat) {i : Nat} (hi : i < l.length) (h1 : opl l i ≠ 1 → i + 1 < l.length) : f_X11_redexAt (k + 1) 89 (nI i) M = some (nI (rdl l i), M) := by
  have hl := hR.2.1
  have hor := hR.2.2.1.at_ hi
  have ea := rx_arityR (M := M) k hor.1 hor.2
  have h5 := hR.kd hi
  have hA := fA_R hW (a := 105) (by omega) (s_105 hW) (show i < 400 by omega) (by omega)
  refine (ge_X11_redexAt_0 (k + 1) 89 (nI i) M).trans ?_
  unfold T_X11_redexAt_0 rdl
  obtain ⟨o, ho⟩ : ∃ o, o = opl l i := ⟨_, rfl⟩
  rw [← ho] at ea h5 h1 hor ⊢
  by_cases q1 : o = 1
  · subst q1
    simp (disch := omega) only [↓reduceIte, ↓gd_pos (fO_R hW), ↓bnd_of (r_89_20 hW), ↓gd_pos hA, nI_z, h5, ↓bnd2_of (show cal (k + 1) (fun zz => f_X11_arity zz (nI (1 - 1)) M) = _ from ea), show (nI (ar 1) = (0 : Int32)) = True from eq_true rfl]
    rw [rdk_0 1 (by omega)]
    rfl
  · have hi1 := h1 q1
    have hor1 := hR.2.2.1.at_ hi1
    have h51 := hR.kd hi1
    have hA1 := fA_R hW (a := 105) (by omega) (s_105 hW) (show i + 1 < 400 by omega) (by omega)
    have e80 := ra_80 hW (k + 1) (show i < 400 by omega) (nI (opl l (i + 1) - 1))
    rw [h5] at e80
    have e0 : lp (st_X11_redexAt (k + 1)) (80, [.ref 89, .int (nI i), .int (nI (opl l (i + 1) - 1)), .int 0], M) = some (0, M) := by
      refine (ge_X11_redexAt_80 (k + 1) 89 (nI i) _ 0 M).trans ?_
      unfold T_X11_redexAt_80
      rw [if_pos rfl]
    have : o = 2 ∨ o = 3 ∨ o = 4 ∨ o = 5 ∨ o = 6 ∨ o = 7 ∨ o = 8 ∨ o = 9 ∨ o = 10 := by omega
    have fin : (o = 3 ∨ o = 5 ∨ o = 6 ∨ o = 9 ∨ o = 10) → some (h80 (nI (o - 1)) (nI (opl l (i + 1) - 1)), M) = some (nI (rdk o (opl l (i + 1))), M) := fun z => by rw [h80_is o (by omega) z _ (by omega) hor1.1]
    rcases this with rfl | rfl | rfl | rfl | rfl | rfl | rfl | rfl | rfl
    · simp (disch := omega) only [↓reduceIte, ↓gd_pos (fO_R hW), ↓bnd_of (r_89_20 hW), ↓gd_pos hA, nI_z, h5, ↓bnd2_of (show cal (k + 1) (fun zz => f_X11_arity zz (nI (2 - 1)) M) = _ from ea), show (nI (ar 2) = (0 : Int32)) = False from eq_false (by decide), nI_1, ↓gd_pos hA1, h51, show (nI (2 - 1) = (2 : Int32)) = False from eq_false (by decide), show (nI (2 - 1) = (4 : Int32)) = False from eq_false (by decide), show (nI (2 - 1) = (5 : Int32)) = False from eq_false (by decide), show (nI (2 - 1) = (8 : Int32)) = False from eq_false (by decide), show (nI (2 - 1) = (9 : Int32)) = False from eq_false (by decide)]
      rw [e0, rdk_0 2 (by omega)]
      rfl
    · simp (disch := omega) only [↓reduceIte, ↓gd_pos (fO_R hW), ↓bnd_of (r_89_20 hW), ↓gd_pos hA, nI_z, h5, ↓bnd2_of (show cal (k + 1) (fun zz => f_X11_arity zz (nI (3 - 1)) M) = _ from ea), show (nI (ar 3) = (0 : Int32)) = False from eq_false (by decide), nI_1, ↓gd_pos hA1, h51, show (nI (3 - 1) = (2 : Int32)) = True from eq_true rfl]
      rw [e80]
      exact fin (by omega)
    · simp (disch := omega) only [↓reduceIte, ↓gd_pos (fO_R hW), ↓bnd_of (r_89_20 hW), ↓gd_pos hA, nI_z, h5, ↓bnd2_of (show cal (k + 1) (fun zz => f_X11_arity zz (nI (4 - 1)) M) = _ from ea), show (nI (ar 4) = (0 : Int32)) = False from eq_false (by decide), nI_1, ↓gd_pos hA1, h51, show (nI (4 - 1) = (2 : Int32)) = False from eq_false (by decide), show (nI (4 - 1) = (4 : Int32)) = False from eq_false (by decide), show (nI (4 - 1) = (5 : Int32)) = False from eq_false (by decide), show (nI (4 - 1) = (8 : Int32)) = False from eq_false (by decide), show (nI (4 - 1) = (9 : Int32)) = False from eq_false (by decide)]
      rw [e0, rdk_0 4 (by omega)]
      rfl
    · simp (disch := omega) only [↓reduceIte, ↓gd_pos (fO_R hW), ↓bnd_of (r_89_20 hW), ↓gd_pos hA, nI_z, h5, ↓bnd2_of (show cal (k + 1) (fun zz => f_X11_arity zz (nI (5 - 1)) M) = _ from ea), show (nI (ar 5) = (0 : Int32)) = False from eq_false (by decide), nI_1, ↓gd_pos hA1, h51, show (nI (5 - 1) = (2 : Int32)) = False from eq_false (by decide), show (nI (5 - 1) = (4 : Int32)) = True from eq_true rfl]
      rw [e80]
      exact fin (by omega)
    · simp (disch := omega) only [↓reduceIte, ↓gd_pos (fO_R hW), ↓bnd_of (r_89_20 hW), ↓gd_pos hA, nI_z, h5, ↓bnd2_of (show cal (k + 1) (fun zz => f_X11_arity zz (nI (6 - 1)) M) = _ from ea), show (nI (ar 6) = (0 : Int32)) = False from eq_false (by decide), nI_1, ↓gd_pos hA1, h51, show (nI (6 - 1) = (2 : Int32)) = False from eq_false (by decide), show (nI (6 - 1) = (4 : Int32)) = False from eq_false (by decide), show (nI (6 - 1) = (5 : Int32)) = True from eq_true rfl]
      rw [e80]
      exact fin (by omega)
    · simp (disch := omega) only [↓reduceIte, ↓gd_pos (fO_R hW), ↓bnd_of (r_89_20 hW), ↓gd_pos hA, nI_z, h5, ↓bnd2_of (show cal (k + 1) (fun zz => f_X11_arity zz (nI (7 - 1)) M) = _ from ea), show (nI (ar 7) = (0 : Int32)) = False from eq_false (by decide), nI_1, ↓gd_pos hA1, h51, show (nI (7 - 1) = (2 : Int32)) = False from eq_false (by decide), show (nI (7 - 1) = (4 : Int32)) = False from eq_false (by decide), show (nI (7 - 1) = (5 : Int32)) = False from eq_false (by decide), show (nI (7 - 1) = (8 : Int32)) = False from eq_false (by decide), show (nI (7 - 1) = (9 : Int32)) = False from eq_false (by decide)]
      rw [e0, rdk_0 7 (by omega)]
      rfl
    · simp (disch := omega) only [↓reduceIte, ↓gd_pos (fO_R hW), ↓bnd_of (r_89_20 hW), ↓gd_pos hA, nI_z, h5, ↓bnd2_of (show cal (k + 1) (fun zz => f_X11_arity zz (nI (8 - 1)) M) = _ from ea), show (nI (ar 8) = (0 : Int32)) = False from eq_false (by decide), nI_1, ↓gd_pos hA1, h51, show (nI (8 - 1) = (2 : Int32)) = False from eq_false (by decide), show (nI (8 - 1) = (4 : Int32)) = False from eq_false (by decide), show (nI (8 - 1) = (5 : Int32)) = False from eq_false (by decide), show (nI (8 - 1) = (8 : Int32)) = False from eq_false (by decide), show (nI (8 - 1) = (9 : Int32)) = False from eq_false (by decide)]
      rw [e0, rdk_0 8 (by omega)]
      rfl
    · simp (disch := omega) only [↓reduceIte, ↓gd_pos (fO_R hW), ↓bnd_of (r_89_20 hW), ↓gd_pos hA, nI_z, h5, ↓bnd2_of (show cal (k + 1) (fun zz => f_X11_arity zz (nI (9 - 1)) M) = _ from ea), show (nI (ar 9) = (0 : Int32)) = False from eq_false (by decide), nI_1, ↓gd_pos hA1, h51, show (nI (9 - 1) = (2 : Int32)) = False from eq_false (by decide), show (nI (9 - 1) = (4 : Int32)) = False from eq_false (by decide), show (nI (9 - 1) = (5 : Int32)) = False from eq_false (by decide), show (nI (9 - 1) = (8 : Int32)) = True from eq_true rfl]
      rw [e80]
      exact fin (by omega)
    · simp (disch := omega) only [↓reduceIte, ↓gd_pos (fO_R hW), ↓bnd_of (r_89_20 hW), ↓gd_pos hA, nI_z, h5, ↓bnd2_of (show cal (k + 1) (fun zz => f_X11_arity zz (nI (10 - 1)) M) = _ from ea), show (nI (ar 10) = (0 : Int32)) = False from eq_false (by decide), nI_1, ↓gd_pos hA1, h51, show (nI (10 - 1) = (2 : Int32)) = False from eq_false (by decide), show (nI (10 - 1) = (4 : Int32)) = False from eq_false (by decide), show (nI (10 - 1) = (5 : Int32)) = False from eq_false (by decide), show (nI (10 - 1) = (8 : Int32)) = False from eq_false (by decide), show (nI (10 - 1) = (9 : Int32)) = True from eq_true rfl]
      rw [e80]
      exact fin (by omega)
/-- in a term's row every node but a name has another behind it -/
theorem nxt_in {t : Tm} (ht : isT t) {i : Nat} (hi : i < (rws t).length) (h : opl (rws t) i ≠ 1) : i + 1 < (rws t).length := by
  obtain ⟨s, e, hs, hF⟩ := Foc.ex t ht 0 (Nat.zero_le i) (show i < 0 + sz t by rw [Nat.zero_add]; exact hi)
  have hS := hF.sb ht Sb.self
  have hle := hS.le
  have e0 : opl (rws t) i = ort s := opl_sb hS (i := 0) (sz_pos s hs)
  rw [e0] at h
  rcases ort_cs s hs with ⟨-, q⟩ | ⟨o, f, a, rfl, q⟩ | ⟨o, a, b, rfl, ho, q⟩ | ⟨m, a, b, rfl, q⟩
  · exact absurd q h
  · rw [sz_U] at hle; have := sz_pos a hs.2; omega
  · rw [sz_B] at hle; have := sz_pos a hs.2.1; omega
  · rw [sz_C] at hle; have := sz_pos m hs.1; omega
theorem rx_frx_loop (hW : Wd M) {t : Tm} (ht : isT t) (hR : WrkR M c (rws t)) (k : Nat) : ∀ z i, i + z = sz t → lp (st_X11_firstRedex (k + 2)) (2, [.ref 89, .int (nI i)], M) = some (oI (frx (rws t) z i), M) := by
  have hl := hR.2.1
  obtain ⟨q, hq⟩ : ∃ q, q = k + 1 := ⟨_, rfl⟩
  rw [show k + 2 = q + 1 by omega]
  have h24 : M.2.2.1 89 24 = nI (sz t) := hR.1
  rw [rws_len] at hl
  intro z
  induction z with
  | zero =>
    intro i hi
    refine (ge_X11_firstRedex_2 (q + 1) 89 (nI i) M).trans ?_
    unfold T_X11_firstRedex_2
    simp (disch := omega) only [↓gd_pos (fO_R hW), h24, nI_le_, nI_eq_, eq_true (show sz t ≤ i by omega), eq_true (show i = sz t by omega), ↓reduceIte]
    rfl
  | succ z ih =>
    intro i hi
    have e := rx_redexAt hW hR k (i := i) (by rw [rws_len]; omega) (nxt_in ht (by rw [rws_len]; omega))
    rw [show k + 1 = q by omega] at e
    refine (ge_X11_firstRedex_2 (q + 1) 89 (nI i) M).trans ?_
    unfold T_X11_firstRedex_2
    have hr7 : rdl (rws t) i ≤ 7 := rdk_le _ _
    by_cases h0 : rdl (rws t) i = 0
    · rw [h0] at e
      have e' : f_X11_redexAt q 89 (nI i) M = some (0, M) := e
      simp (disch := omega) only [↓gd_pos (fO_R hW), h24, nI_le_, eq_false (show ¬ sz t ≤ i by omega), ↓reduceIte, ↓bnd2_of (show cal (q + 1) (fun zz => f_X11_redexAt zz 89 (nI i) M) = _ from e'), nI_1]
      rw [ih (i + 1) (by omega)]
      congr 2
      show oI (frx (rws t) z (i + 1)) = oI (if rdl (rws t) i = 0 then frx (rws t) z (i + 1) else some i)
      rw [if_pos h0]
    · have hne : (nI (rdl (rws t) i) = (0 : Int32)) = False := eq_false (fun z => h0 ((nI_eq (b := 0) (by omega) (by omega)).mp z))
      simp (disch := omega) only [↓gd_pos (fO_R hW), h24, nI_le_, nI_eq_, eq_false (show ¬ sz t ≤ i by omega), eq_false (show ¬ i = sz t by omega), ↓reduceIte, ↓bnd2_of (show cal (q + 1) (fun zz => f_X11_redexAt zz 89 (nI i) M) = _ from e), hne]
      congr 2
      show nI i = oI (if rdl (rws t) i = 0 then frx (rws t) z (i + 1) else some i)
      rw [if_neg h0]
      rfl
theorem rx_firstRedex (hW : Wd M) {t : Tm} (ht : isT t) (hR : WrkR M c (rws t)) (k : Nat) : f_X11_firstRedex (k + 2) 89 M = some (oI (frx (rws t) (sz t) 0), M) :=
  ((ge_X11_firstRedex_0 (k + 2) 89 M).trans rfl).trans (rx_frx_loop hW ht hR k (sz t) 0 (by omega))
end RBH
