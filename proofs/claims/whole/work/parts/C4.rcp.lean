/-! STEPS in the reference: nodes are copied, a term put for a name -/
def SNw (a k : Nat) : Prop := (a = 89 ∧ k = 25) ∨ a = 107 ∨ a = 108
/-- the row that is worked at, and the new one -/
def NwS (M : Mem) (c : Nat) (l l1 : List (Nat × Tm)) : Prop := Wd M ∧ WrkR M c l ∧ M.2.2.1 89 25 = nI l1.length ∧ l1.length ≤ 400 ∧ RowR M 107 108 0 c l1
section RCP
variable {c : Nat} {l : List (Nat × Tm)}
theorem dR_nw {M M1 : Mem} (hF : Fr SNw M M1) : dR M1 = dR M := dR_fq hF.q (fun k q => by unfold SNw at q; omega) (fun k q => by unfold SNw at q; omega) (fun k q => by unfold SNw at q; omega)
theorem WrkR.nw {M M1 : Mem} (h : WrkR M c l) (hF : Fr SNw M M1) : WrkR M1 c l := h.mv (hF.int (by unfold SNw; omega)) (hF.ints (by unfold SNw; omega)) (hF.ints (by unfold SNw; omega)) (fun i _ => by rw [dR_nw hF]) (Nat.le_refl _)
theorem rx_writes {M : Mem} {l1 : List (Nat × Tm)} (h : NwS M c l l1) (k : Nat) {o : Nat} {lb : Tm} {g : Int32} (h1 : 1 ≤ o) (h10 : o ≤ 10) (hg : agR M c (o, lb) g) (hr : l1.length < 400) : ∃ M1, f_X11_writes k 89 (nI (o - 1)) g M = some ((), M1) ∧ Fr SNw M M1 ∧ NwS M1 c l (l1 ++ [(o, lb)]) := by
  obtain ⟨hW, hR, h25, hl1, hN⟩ := h
  have F : Fr SNw M (wI (wI (wI M 107 l1.length (nI (o - 1))) 108 l1.length g) 89 25 (nI (l1.length + 1))) := ((Fr.refl.wI (by unfold SNw; omega) _).wI (by unfold SNw; omega) _).wI (by unfold SNw; omega) _
  refine ⟨_, ?_, F, F.Wd hW, hR.nw F, by simp [up2_if], by simp; omega, ?_, fun i nd hi => ?_⟩
  · have hA7 := fA_R hW (a := 107) (by omega) (s_107 hW) hr (by omega)
    have hA8 := fA_R hW (a := 108) (by omega) (s_108 hW) hr (by omega)
    show T_X11_writes_0 (fun v M => some (v, M)) none k 89 (nI (o - 1)) g M = _
    unfold T_X11_writes_0
    simp (disch := omega) only [↓gd_pos (fO_R hW), ↓bnd_of (r_89_22 hW), ↓bnd_of (r_89_23 hW), h25, nI_z, ↓gd_pos hA7, up2_if, Nat.reduceEqDiff, false_and, if_false, ↓gd_pos hA8, nI_1]
  · intro nd hn
    rw [List.mem_append, List.mem_singleton] at hn
    rcases hn with hn | rfl
    · exact hN.1 nd hn
    · exact ⟨h1, h10⟩
  · have hd : ∀ j, j < c → dR (wI (wI (wI M 107 l1.length (nI (o - 1))) 108 l1.length g) 89 25 (nI (l1.length + 1))) j = dR M j := fun j _ => by rw [dR_nw F]
    by_cases hl : i < l1.length
    · rw [List.getElem?_append_left hl] at hi
      obtain ⟨a1, a2⟩ := hN.2 i nd hi
      rw [Nat.zero_add] at a1 a2 ⊢
      have e1 : i ≠ l1.length := by omega
      simp only [up2_if, e1, and_false, if_false, Nat.reduceEqDiff, false_and]
      exact ⟨a1, a2.mv hd (Nat.le_refl _)⟩
    · have e1 : i = l1.length := by
        have := (opl_of hi).2.2
        simp only [List.length_append, List.length_cons, List.length_nil] at this
        omega
      subst e1
      rw [List.getElem?_append_right (Nat.le_refl _), Nat.sub_self] at hi
      cases hi
      rw [Nat.zero_add]
      simp only [up2_if, and_self, if_true, Nat.reduceEqDiff, false_and, if_false, true_and]
      exact hg.mv hd (Nat.le_refl _)
noncomputable abbrev lpC (k e : Nat) (lv w : Int32) (i : Nat) (M : Mem) : Option (Unit × Mem) := lp (st_X11_copies (k + 1)) (3, [.ref 89, .int (nI e), .int lv, .int w, .int (nI i)], M)
/-- how a label goes over -/
def gO (o lv : Nat) (w : Int32) (lb lb1 : Tm) : Prop := (o ≠ 1 → lb1 = lb) ∧ (o = 1 → ∀ k, lb = .index k → (k < lv → lb1 = .index k) ∧ (lv ≤ k → ∃ k1, lb1 = .index k1 ∧ nI k + w = nI k1)) ∧ (∀ k, lb = .arg k → lb1 = .arg k)
theorem cw_one {M : Mem} {l1 : List (Nat × Tm)} (h : NwS M c l l1) (k : Nat) {e lv i : Nat} {w : Int32} (he : e ≤ l.length) (hi : i < e) (hlv : lv < 1000) (hn : nmB (opl l i, lbl l i)) (hr : l1.length < 400) {lb1 : Tm} (hg : gO (opl l i) lv w (lbl l i) lb1) : ∃ M1, lpC k e (nI lv) w i M = lpC k e (nI lv) w (i + 1) M1 ∧ Fr SNw M M1 ∧ NwS M1 c l (l1 ++ [(opl l i, lb1)]) := by
  have hW := h.1
  have hR := h.2.1
  have hl := hR.2.1
  have hlt : i < l.length := by omega
  have hor := hR.2.2.1.at_ hlt
  have h5 := hR.kd hlt
  have hag := hR.ag hlt
  obtain ⟨g, hgd⟩ : ∃ g, g = M.2.2.1 106 i := ⟨_, rfl⟩
  rw [← hgd] at hag
  have hA5 := fA_R hW (a := 105) (by omega) (s_105 hW) (show i < 400 by omega) (by omega)
  have hA6 := fA_R hW (a := 106) (by omega) (s_106 hW) (show i < 400 by omega) (by omega)
  have st : ∀ {g1 : Int32} {M1 : Mem}, f_X11_writes k 89 (nI (opl l i - 1)) g1 M = some ((), M1) → (opl l i ≠ 1 → g1 = g) → (opl l i = 1 → (g < nI lv → g1 = g) ∧ (¬ g < nI lv → g1 = g + w)) → lpC k e (nI lv) w i M = lpC k e (nI lv) w (i + 1) M1 := by
    intro g1 M1 e1 hx1 hx2
    unfold lpC
    refine (ge_X11_copies_3 (k + 1) 89 (nI e) (nI lv) w (nI i) M).trans ?_
    unfold T_X11_copies_3
    by_cases q : opl l i = 1
    · have hz : (nI (opl l i - 1) = (0 : Int32)) = True := eq_true (by rw [q]; rfl)
      by_cases r : g < nI lv
      · have := (hx2 q).1 r
        subst this
        simp (disch := omega) only [nI_le_, eq_false (show ¬ e ≤ i by omega), ↓reduceIte, ↓gd_pos (fO_R hW), ↓bnd_of (r_89_20 hW), ↓gd_pos hA5, nI_z, h5, hz, ↓bnd_of (r_89_21 hW), ↓gd_pos hA6, ← hgd, eq_true r, ↓bnd2_of (show cal (k + 1) (fun zz => f_X11_writes zz 89 (nI (opl l i - 1)) g1 M) = _ from e1), nI_1]
      · have := (hx2 q).2 r
        subst this
        simp (disch := omega) only [nI_le_, eq_false (show ¬ e ≤ i by omega), ↓reduceIte, ↓gd_pos (fO_R hW), ↓bnd_of (r_89_20 hW), ↓gd_pos hA5, nI_z, h5, hz, ↓bnd_of (r_89_21 hW), ↓gd_pos hA6, ← hgd, eq_false r, ↓bnd2_of (show cal (k + 1) (fun zz => f_X11_writes zz 89 (nI (opl l i - 1)) (g + w) M) = _ from e1), nI_1]
    · have hz : (nI (opl l i - 1) = (0 : Int32)) = False := eq_false (fun z => by have := (nI_eq (b := 0) (by omega) (by omega)).mp z; omega)
      have := hx1 q
      subst this
      simp (disch := omega) only [nI_le_, eq_false (show ¬ e ≤ i by omega), ↓reduceIte, ↓gd_pos (fO_R hW), ↓bnd_of (r_89_20 hW), ↓gd_pos hA5, nI_z, h5, hz, ↓bnd_of (r_89_21 hW), ↓gd_pos hA6, ← hgd, ↓bnd2_of (show cal (k + 1) (fun zz => f_X11_writes zz 89 (nI (opl l i - 1)) g1 M) = _ from e1), nI_1]
  obtain ⟨gO1, gO2, gO3⟩ := hg
  by_cases q : opl l i = 1
  · have ntf : ∀ f : Tm, ¬ tf (opl l i, f).1 := fun f y => by rw [show (opl l i, f).1 = 1 from q] at y; unfold tf at y; omega
    have hgn : g = nv (lbl l i) := hag.1 q
    rcases hn q with ⟨j, hj, hj2⟩ | ⟨j, hj, hj2⟩
    · have hj : lbl l i = .index j := hj
      rw [hj] at hgn
      have hgj : g = nI j := hgn
      by_cases r : j < lv
      · have e1 := (gO2 q j hj).1 r
        obtain ⟨M1, y1, F1, N1⟩ := rx_writes h k (lb := lb1) (g := g) hor.1 hor.2 ⟨fun _ => by rw [show (opl l i, lb1).2 = .index j from e1]; exact hgn, fun y => (ntf _ y).elim, fun y => absurd q y⟩ hr
        exact ⟨M1, st y1 (fun _ => rfl) (fun _ => ⟨fun _ => rfl, fun z => absurd ((nI_ltI (by omega) (by omega)).mpr r) (by rw [hgj] at z; exact z)⟩), F1, N1⟩
      · obtain ⟨j1, e1, e2⟩ := (gO2 q j hj).2 (by omega)
        obtain ⟨M1, y1, F1, N1⟩ := rx_writes h k (lb := lb1) (g := g + w) hor.1 hor.2 ⟨fun _ => by rw [show (opl l i, lb1).2 = .index j1 from e1, hgj]; exact e2, fun y => (ntf _ y).elim, fun y => absurd q y⟩ hr
        exact ⟨M1, st y1 (fun z => absurd q z) (fun _ => ⟨fun z => absurd ((nI_ltI (by omega) (by omega)).mp (by rw [hgj] at z; exact z)) r, fun _ => rfl⟩), F1, N1⟩
    · have hj : lbl l i = .arg j := hj
      rw [hj] at hgn
      have hgj : g = -1 - nI j := hgn
      have hlt0 : g < nI lv := by
        rw [hgj, Int32.lt_iff_toInt_lt, hy_toInt (by omega), nI_toInt (by omega)]
        omega
      obtain ⟨M1, y1, F1, N1⟩ := rx_writes h k (lb := lb1) (g := g) hor.1 hor.2 ⟨fun _ => by rw [show (opl l i, lb1).2 = .arg j from gO3 j hj]; exact hgn, fun y => (ntf _ y).elim, fun y => absurd q y⟩ hr
      exact ⟨M1, st y1 (fun _ => rfl) (fun _ => ⟨fun _ => rfl, fun z => absurd hlt0 z⟩), F1, N1⟩
  · obtain ⟨M1, y1, F1, N1⟩ := rx_writes h k (lb := lb1) (g := g) hor.1 hor.2 (by rw [gO1 q]; exact hag) hr
    exact ⟨M1, st y1 (fun _ => rfl) (fun z => absurd z q), F1, N1⟩
theorem cw_end {M : Mem} (k : Nat) {e i : Nat} {lv w : Int32} (he : e ≤ i) (hi : i < 1000) : lpC k e lv w i M = some ((), M) := by
  unfold lpC
  refine (ge_X11_copies_3 (k + 1) 89 (nI e) lv w (nI i) M).trans ?_
  unfold T_X11_copies_3
  simp (disch := omega) only [nI_le_, eq_true he, ↓reduceIte]
theorem gO_lf {o lv w : Nat} {lb : Tm} : gO o lv (nI w) lb (lfn lv w (o, lb)).2 := by
  refine ⟨fun q => by rw [lfn_n q], fun q k hk => ?_, fun k hk => ?_⟩
  · subst q hk
    rw [lfn_1]
    exact ⟨fun r => if_neg (by omega), fun r => ⟨k + w, if_pos r, nI_add k w⟩⟩
  · subst hk
    by_cases q : o = 1
    · subst q; rfl
    · rw [lfn_n q]
theorem lfn_fst {lv w o : Nat} {lb : Tm} : (lfn lv w (o, lb)).1 = o := by
  by_cases q : o = 1
  · subst q; rfl
  · rw [lfn_n q]
theorem cw_loop (hn : ∀ nd, nd ∈ l → nmB nd) (k : Nat) {e lv w : Nat} (he : e ≤ l.length) (hlv : lv < 1000) : ∀ z i, i + z = e → ∀ {M : Mem} {l1 : List (Nat × Tm)}, NwS M c l l1 → l1.length + z ≤ 400 → ∃ M1, lpC k e (nI lv) (nI w) i M = some ((), M1) ∧ Fr SNw M M1 ∧ NwS M1 c l (l1 ++ ((l.drop i).take z).map (lfn lv w)) := by
  intro z
  induction z with
  | zero =>
    intro i hi M l1 h hz
    have hl := h.2.1.2.1
    exact ⟨M, cw_end k (by omega) (by omega), Fr.refl, by simpa using h⟩
  | succ z ih =>
    intro i hi M l1 h hz
    have hlt : i < l.length := by omega
    obtain ⟨M1, e1, F1, N1⟩ := cw_one h k (w := nI w) he (by omega) hlv (hn _ (List.mem_of_getElem? (opl_get hlt))) (by omega) gO_lf
    obtain ⟨M2, e2, F2, N2⟩ := ih (i + 1) (by omega) N1 (by simp; omega)
    refine ⟨M2, e1.trans e2, F1.trans F2, ?_⟩
    have hd : l.drop i = (opl l i, lbl l i) :: l.drop (i + 1) := by
      rw [List.drop_eq_getElem_cons hlt]
      have := opl_get hlt
      rw [List.getElem?_eq_getElem hlt] at this
      rw [Option.some.inj this]
    rw [hd, List.take_succ_cons, List.map_cons, show lfn lv w (opl l i, lbl l i) = (opl l i, (lfn lv w (opl l i, lbl l i)).2) from Prod.ext lfn_fst rfl]
    rw [List.append_assoc, List.singleton_append] at N2
    exact N2
theorem rx_copies (hn : ∀ nd, nd ∈ l → nmB nd) (k : Nat) {i e lv w : Nat} (he : e ≤ l.length) (hi : i ≤ e) (hlv : lv < 1000) {M : Mem} {l1 : List (Nat × Tm)} (h : NwS M c l l1) (hr : l1.length + (e - i) ≤ 400) : ∃ M1, f_X11_copies (k + 1) 89 (nI i) (nI e) (nI lv) (nI w) M = some ((), M1) ∧ Fr SNw M M1 ∧ NwS M1 c l (l1 ++ ((l.drop i).take (e - i)).map (lfn lv w)) := by
  obtain ⟨M1, e1, F1, N1⟩ := cw_loop hn k (w := w) he hlv (e - i) i (by omega) h hr
  exact ⟨M1, ((ge_X11_copies_0 (k + 1) 89 (nI i) (nI e) (nI lv) (nI w) M).trans rfl).trans e1, F1, N1⟩
/-- a term is copied as it stands -/
theorem rx_copyT (hn : ∀ nd, nd ∈ l → nmB nd) (k : Nat) {i e : Nat} {t : Tm} (hS : Sb l i t) (he : e = i + sz t) {M : Mem} {l1 : List (Nat × Tm)} (h : NwS M c l l1) (hr : l1.length + sz t ≤ 400) : ∃ M1, f_X11_copies (k + 1) 89 (nI i) (nI e) 0 0 M = some ((), M1) ∧ Fr SNw M M1 ∧ NwS M1 c l (l1 ++ rws t) := by
  have hle := hS.le
  obtain ⟨M1, e1, F1, N1⟩ := rx_copies hn k (i := i) (e := e) (lv := 0) (w := 0) (by omega) (by omega) (by omega) h (by omega)
  rw [map_00, show e - i = sz t by omega, seg_sb hS] at N1
  exact ⟨M1, e1, F1, N1⟩
noncomputable abbrev lpU (k lv sp se e i : Nat) (M : Mem) : Option (Unit × Mem) := lp (st_X11_puts (k + 2)) (17, [.ref 89, .int (nI lv), .int (nI sp), .int (nI e), .int (nI se), .int (nI i)], M)
theorem gO_dc {o lv : Nat} {lb : Tm} (h : ¬ (o = 1 ∧ lb = .index lv)) : gO o lv (-1) lb (if o = 1 then dcl lv lb else lb) := by
  refine ⟨fun q => if_neg q, fun q k hk => ?_, fun k hk => ?_⟩
  · subst q hk
    rw [if_pos rfl]
    have hne : k ≠ lv := fun z => h ⟨rfl, by rw [z]⟩
    refine ⟨fun r => if_neg (by omega), fun r => ⟨k - 1, if_pos (by omega), ?_⟩⟩
    obtain ⟨j, rfl⟩ : ∃ j, k = j + 1 := ⟨k - 1, by omega⟩
    exact nI_m1 j
  · subst hk
    split <;> rfl
/-- a node that isn't the name -/
theorem pu_A {M : Mem} {l1 : List (Nat × Tm)} (h : NwS M c l l1) (k : Nat) {sp se e lv i : Nat} (he : e ≤ l.length) (hi : i < e) (hlv : lv < 1000) (hn : nmB (opl l i, lbl l i)) (hne : ¬ (opl l i = 1 ∧ lbl l i = .index lv)) (hr : l1.length < 400) : ∃ M1, lpU k lv sp se e i M = lpU k lv sp se e (i + 1) M1 ∧ Fr SNw M M1 ∧ NwS M1 c l (l1 ++ [(opl l i, if opl l i = 1 then dcl lv (lbl l i) else lbl l i)]) := by
  have hW := h.1
  have hR := h.2.1
  have hl := hR.2.1
  have hlt : i < l.length := by omega
  have hor := hR.2.2.1.at_ hlt
  have h5 := hR.kd hlt
  have hag := hR.ag hlt
  have hA5 := fA_R hW (a := 105) (by omega) (s_105 hW) (show i < 400 by omega) (by omega)
  have hA6 := fA_R hW (a := 106) (by omega) (s_106 hW) (show i < 400 by omega) (by omega)
  obtain ⟨q, hq⟩ : ∃ q, q = k + 1 := ⟨_, rfl⟩
  obtain ⟨M1, e1, F1, N1⟩ := cw_one h k (e := i + 1) (w := -1) (lv := lv) (by omega) (by omega) hlv hn hr (gO_dc hne)
  have e1' : f_X11_copies q 89 (nI i) (nI (i + 1)) (nI lv) (-1) M = some ((), M1) := by
    rw [hq]
    refine ((ge_X11_copies_0 (k + 1) 89 (nI i) (nI (i + 1)) (nI lv) (-1) M).trans rfl).trans (e1.trans ?_)
    exact cw_end k (Nat.le_refl _) (by omega)
  refine ⟨M1, ?_, F1, N1⟩
  have e67 : lp (st_X11_puts (q + 1)) (67, [.ref 89, .int (nI lv), .int (nI sp), .int (nI e), .int (nI se), .int (nI i)], M) = lp (st_X11_puts (q + 1)) (17, [.ref 89, .int (nI lv), .int (nI sp), .int (nI e), .int (nI se), .int (nI (i + 1))], M1) := by
    refine (ge_X11_puts_67 (q + 1) 89 (nI lv) (nI sp) (nI e) (nI se) (nI i) M).trans ?_
    unfold T_X11_puts_67
    simp (disch := omega) only [nI_1, ↓gd_pos (fO_R hW), ↓bnd2_of (show cal (q + 1) (fun zz => f_X11_copies zz 89 (nI i) (nI (i + 1)) (nI lv) (-1) M) = _ from e1')]
  unfold lpU
  rw [show k + 2 = q + 1 by omega, ← e67]
  refine (ge_X11_puts_17 (q + 1) 89 (nI lv) (nI sp) (nI e) (nI se) (nI i) M).trans ?_
  unfold T_X11_puts_17
  by_cases z : opl l i = 1
  · have hz : (nI (opl l i - 1) = (0 : Int32)) = True := eq_true (by rw [z]; rfl)
    have hgn : (M.2.2.1 106 i = nI lv) = False := eq_false (fun y => hne ⟨z, by
      have hgn : M.2.2.1 106 i = nv (lbl l i) := hag.1 z
      rcases hn z with ⟨j, hj, hj2⟩ | ⟨j, hj, hj2⟩
      · have hj : lbl l i = .index j := hj
        rw [hj] at hgn ⊢
        rw [y] at hgn
        have := (nI_eq (by omega) (by omega)).mp (show nI lv = nI j from hgn)
        rw [this]
      · have hj : lbl l i = .arg j := hj
        rw [hj] at hgn
        rw [y] at hgn
        have hgn : nI lv = -1 - nI j := hgn
        have := congrArg Int32.toInt hgn
        rw [hy_toInt (by omega), nI_toInt (by omega)] at this
        omega⟩)
    simp (disch := omega) only [nI_le_, eq_false (show ¬ e ≤ i by omega), ↓reduceIte, ↓gd_pos (fO_R hW), ↓bnd_of (r_89_20 hW), ↓gd_pos hA5, nI_z, h5, hz, ↓bnd_of (r_89_21 hW), ↓gd_pos hA6, hgn]
  · have hz : (nI (opl l i - 1) = (0 : Int32)) = False := eq_false (fun y => by have := (nI_eq (b := 0) (by omega) (by omega)).mp y; omega)
    simp (disch := omega) only [nI_le_, eq_false (show ¬ e ≤ i by omega), ↓reduceIte, ↓gd_pos (fO_R hW), ↓bnd_of (r_89_20 hW), ↓gd_pos hA5, nI_z, h5, hz]
/-- and one that is -/
theorem pu_B {M : Mem} {l1 : List (Nat × Tm)} (h : NwS M c l l1) (hnm : ∀ nd, nd ∈ l → nmB nd) (k : Nat) {sp e lv i d : Nat} {s : Tm} (hs0 : isT s) (hsp : Sb l sp s) (he : e ≤ l.length) (hi : i < e) (hd : lv < d) (hd4 : d < 1000) (h114 : M.2.2.1 114 i = nI d) (hop : opl l i = 1) (hlb : lbl l i = .index lv) (hr : l1.length + sz s ≤ 400) : ∃ M1, lpU k lv sp (sp + sz s) e i M = lpU k lv sp (sp + sz s) e (i + 1) M1 ∧ Fr SNw M M1 ∧ NwS M1 c l (l1 ++ rws (lft lv (d - 1 - lv) s)) := by
  have hW := h.1
  have hR := h.2.1
  have hl := hR.2.1
  have hle := hsp.le
  have hlt : i < l.length := by omega
  have h5 := hR.kd hlt
  rw [hop] at h5
  have hgn : M.2.2.1 106 i = nI lv := by
    have := (hR.ag hlt).1 hop
    rw [show (opl l i, lbl l i).2 = .index lv from hlb] at this
    exact this
  have hA5 := fA_R hW (a := 105) (by omega) (s_105 hW) (show i < 400 by omega) (by omega)
  have hA6 := fA_R hW (a := 106) (by omega) (s_106 hW) (show i < 400 by omega) (by omega)
  have hA14 := fA_R hW (a := 114) (by omega) (s_114 hW) (show i < 400 by omega) (by omega)
  obtain ⟨q, hq⟩ : ∃ q, q = k + 1 := ⟨_, rfl⟩
  obtain ⟨M1, e1, F1, N1⟩ := rx_copies hnm k (i := sp) (e := sp + sz s) (lv := lv) (w := d - 1 - lv) hle (by omega) (by omega) h (by omega)
  rw [show k + 1 = q by omega] at e1
  rw [show sp + sz s - sp = sz s by omega, seg_sb hsp, ← rws_lft s hs0] at N1
  refine ⟨M1, ?_, F1, N1⟩
  have ex : nI d - 1 - nI lv = nI (d - 1 - lv) := by
    obtain ⟨j, rfl⟩ : ∃ j, d = lv + j + 1 := ⟨d - 1 - lv, by omega⟩
    rw [show nI (lv + j + 1) - 1 = nI (lv + j) from pm_sub (lv + j + 1), nI_sb (by omega), show lv + j + 1 - 1 - lv = j by omega]
  unfold lpU
  rw [show k + 2 = q + 1 by omega]
  refine (ge_X11_puts_17 (q + 1) 89 (nI lv) (nI sp) (nI e) (nI (sp + sz s)) (nI i) M).trans ?_
  unfold T_X11_puts_17
  simp (disch := omega) only [nI_le_, eq_false (show ¬ e ≤ i by omega), ↓reduceIte, ↓gd_pos (fO_R hW), ↓bnd_of (r_89_20 hW), ↓gd_pos hA5, nI_z, h5, show (nI (1 - 1) = (0 : Int32)) = True from eq_true rfl, ↓bnd_of (r_89_21 hW), ↓gd_pos hA6, hgn, ↓bnd_of (r_89_41 hW), ↓gd_pos hA14, h114, ex, ↓bnd2_of (show cal (q + 1) (fun zz => f_X11_copies zz 89 (nI sp) (nI (sp + sz s)) (nI lv) (nI (d - 1 - lv)) M) = _ from e1), nI_1]
theorem pu_tree (hnm : ∀ nd, nd ∈ l → nmB nd) (k : Nat) {sp e lv : Nat} {s : Tm} (hs0 : isT s) (hsp : Sb l sp s) (he : e ≤ l.length) : ∀ t, isT t → ∀ {p d : Nat} {M : Mem} {l1 : List (Nat × Tm)}, Sb l p t → p + sz t ≤ e → DpR M t p d → lv < d → d + sz t < 1000 → NwS M c l l1 → l1.length + sz (sbs lv s t d) ≤ 400 → ∃ M1, lpU k lv sp (sp + sz s) e p M = lpU k lv sp (sp + sz s) e (p + sz t) M1 ∧ Fr SNw M M1 ∧ NwS M1 c l (l1 ++ rws (sbs lv s t d)) := by
  have at_ : ∀ {p : Nat} {nd : Nat × Tm}, l[p]? = some nd → nmB (opl l p, lbl l p) := fun h => hnm _ (List.mem_of_getElem? (opl_get (opl_of h).2.2))
  have dp : ∀ {M M1 : Mem}, Fr SNw M M1 → ∀ t, isT t → ∀ {p d : Nat}, DpR M t p d → DpR M1 t p d := fun F t ht _ _ g => g.congr t ht (fun i _ _ => F.int (by unfold SNw; omega))
  apply tm_ind
  · intro j p d M l1 hS hpe hL hd hd4 h hr
    obtain ⟨g1, g2, g3⟩ := opl_of hS.L
    rw [sz_L] at hpe hd4 ⊢
    rw [sbs_L] at hr ⊢
    by_cases e1 : j = lv
    · rw [if_pos e1] at hr ⊢
      rw [sz_lft s hs0] at hr
      exact pu_B h hnm k hs0 hsp he (by omega) hd (by omega) hL g1 (by rw [g2, e1]) hr
    · rw [if_neg e1] at hr ⊢
      have e2 : rws (if lv < j then tL (j - 1) else tL j) = [(1, dcl lv (.index j))] := by
        show _ = [(1, if lv < j then tL (j - 1) else tL j)]
        split <;> rfl
      have hr' : l1.length < 400 := by
        unfold sz at hr
        rw [e2] at hr
        simp at hr
        omega
      have := pu_A h k (sp := sp) (se := sp + sz s) he (show p < e by omega) (lv := lv) (by omega) (at_ hS.L) (fun q => e1 (by have := q.2; rw [g2] at this; cases this; rfl)) hr'
      rw [g1, if_pos rfl, g2] at this
      rw [e2]
      exact this
  · intro j p d M l1 hS hpe hL hd hd4 h hr
    obtain ⟨g1, g2, g3⟩ := opl_of hS.H
    rw [sz_H] at hpe hd4 ⊢
    rw [sbs_H, sz_H] at hr
    rw [sbs_H]
    have := pu_A h k (sp := sp) (se := sp + sz s) he (show p < e by omega) (lv := lv) (by omega) (at_ hS.H) (fun q => by have := q.2; rw [g2] at this; cases this) (by omega)
    rw [g1, if_pos rfl, g2] at this
    exact this
  · intro o f a ho ha ih p d M l1 hS hpe hL hd hd4 h hr
    obtain ⟨hS1, hS2⟩ := hS.U
    obtain ⟨g1, g2, g3⟩ := opl_of hS1
    have hrg := ho.rng
    have h1o : opl l p ≠ 1 := by rw [g1]; show o ≠ 1; omega
    rw [sz_U] at hpe hd4 ⊢
    rw [sbs_U, sz_U] at hr
    rw [sbs_U, rws_U]
    obtain ⟨M1, e1, F1, N1⟩ := pu_A h k (sp := sp) (se := sp + sz s) he (show p < e by omega) (lv := lv) (by omega) (at_ hS1) (fun q => h1o q.1) (by omega)
    rw [if_neg h1o, g1, g2] at N1
    have am := amN_le o 0
    obtain ⟨M2, e2, F2, N2⟩ := ih (d := d + amN o 0) hS2 (by omega) (dp F1 a ha hL.2) (by omega) (by omega) N1 (by simp; omega)
    refine ⟨M2, ?_, F1.trans F2, ?_⟩
    · rw [show p + (sz a + 1) = p + 1 + sz a by omega]
      exact e1.trans e2
    · rw [List.append_assoc, List.singleton_append] at N2
      exact N2
  · intro o a b ho ha hb ia ib p d M l1 hS hpe hL hd hd4 h hr
    obtain ⟨hS1, hS2, hS3⟩ := hS.B
    obtain ⟨g1, g2, g3⟩ := opl_of hS1
    have h1o : opl l p ≠ 1 := by rw [g1]; show o ≠ 1; omega
    rw [sz_B] at hpe hd4 ⊢
    rw [sbs_B, sz_B] at hr
    rw [sbs_B, rws_B]
    obtain ⟨M1, e1, F1, N1⟩ := pu_A h k (sp := sp) (se := sp + sz s) he (show p < e by omega) (lv := lv) (by omega) (at_ hS1) (fun q => h1o q.1) (by omega)
    rw [if_neg h1o, g1, g2] at N1
    obtain ⟨M2, e2, F2, N2⟩ := ia hS2 (by omega) (dp F1 a ha hL.2.1) hd (by omega) N1 (by simp; omega)
    obtain ⟨M3, e3, F3, N3⟩ := ib hS3 (by omega) (dp F2 b hb (dp F1 b hb hL.2.2)) hd (by omega) N2 (by simp only [List.length_append, List.length_cons, List.length_nil, rws_len]; omega)
    refine ⟨M3, ?_, (F1.trans F2).trans F3, ?_⟩
    · rw [show p + (sz a + sz b + 1) = p + 1 + sz a + sz b by omega]
      exact e1.trans (e2.trans e3)
    · simpa using N3
  · intro x a b hx ha hb ix ia ib p d M l1 hS hpe hL hd hd4 h hr
    obtain ⟨hS1, hS2, hS3, hS4⟩ := hS.C
    obtain ⟨g1, g2, g3⟩ := opl_of hS1
    have h1o : opl l p ≠ 1 := by rw [g1]; show 9 ≠ 1; omega
    rw [sz_C] at hpe hd4 ⊢
    rw [sbs_C, sz_C] at hr
    rw [sbs_C, rws_C]
    have zx := sz_pos x hx
    obtain ⟨M1, e1, F1, N1⟩ := pu_A h k (sp := sp) (se := sp + sz s) he (show p < e by omega) (lv := lv) (by omega) (at_ hS1) (fun q => h1o q.1) (by omega)
    rw [if_neg h1o, g1, g2] at N1
    obtain ⟨M2, e2, F2, N2⟩ := ix hS2 (by omega) (dp F1 x hx hL.2.1) hd (by omega) N1 (by simp; omega)
    obtain ⟨M3, e3, F3, N3⟩ := ia hS3 (by omega) (dp F2 a ha (dp F1 a ha hL.2.2.1)) (by omega) (by omega) N2 (by simp only [List.length_append, List.length_cons, List.length_nil, rws_len]; omega)
    obtain ⟨M4, e4, F4, N4⟩ := ib hS4 (by omega) (dp F3 b hb (dp F2 b hb (dp F1 b hb hL.2.2.2))) (by omega) (by omega) N3 (by simp only [List.length_append, List.length_cons, List.length_nil, rws_len]; omega)
    refine ⟨M4, ?_, ((F1.trans F2).trans F3).trans F4, ?_⟩
    · rw [show p + (sz x + sz a + sz b + 1) = p + 1 + sz x + sz a + sz b by omega]
      exact e1.trans (e2.trans (e3.trans e4))
    · simpa using N4
theorem rx_puts {M : Mem} {l1 : List (Nat × Tm)} (hnm : ∀ nd, nd ∈ l → nmB nd) (k : Nat) {sp lv p d : Nat} {s t : Tm} (hs0 : isT s) (hsp : Sb l sp s) (ht : isT t) (hS : Sb l p t) (hL : DpR M t p d) (hd : lv < d) (hd4 : d + sz t < 1000) (h : NwS M c l l1) (hr : l1.length + sz (sbs lv s t d) ≤ 400) : ∃ M1, f_X11_puts (k + 2) 89 (nI p) (nI lv) (nI sp) M = some ((), M1) ∧ Fr SNw M M1 ∧ NwS M1 c l (l1 ++ rws (sbs lv s t d)) := by
  have hle := hS.le
  have hW := h.1
  have hR := h.2.1
  have hl := hR.2.1
  obtain ⟨M1, e1, F1, N1⟩ := pu_tree hnm k hs0 hsp hle t ht hS (Nat.le_refl _) hL hd hd4 h hr
  refine ⟨M1, ?_, F1, N1⟩
  obtain ⟨q, hq⟩ : ∃ q, q = k + 1 := ⟨_, rfl⟩
  have y1 := rx_behind hW hR k ht hS
  have y2 := rx_behind hW hR k hs0 hsp
  rw [show k + 1 = q by omega] at y1 y2
  have e0 : f_X11_puts (k + 2) 89 (nI p) (nI lv) (nI sp) M = lpU k lv sp (sp + sz s) (p + sz t) p M := by
    unfold lpU
    rw [show k + 2 = q + 1 by omega]
    refine (ge_X11_puts_0 (q + 1) 89 (nI p) (nI lv) (nI sp) M).trans ?_
    unfold T_X11_puts_0
    simp only [↓gd_pos (fO_R hW), ↓bnd2_of (show cal (q + 1) (fun zz => f_X11_behind zz 89 (nI p) M) = _ from y1), ↓bnd2_of (show cal (q + 1) (fun zz => f_X11_behind zz 89 (nI sp) M) = _ from y2)]
  refine e0.trans (e1.trans ?_)
  unfold lpU
  refine (ge_X11_puts_17 (k + 2) 89 (nI lv) (nI sp) (nI (p + sz t)) (nI (sp + sz s)) (nI (p + sz t)) M1).trans ?_
  unfold T_X11_puts_17
  simp (disch := omega) only [nI_le_, Nat.le_refl, ↓reduceIte]
end RCP
