/-! THE REFERENCE's SEARCH: by one of those from an imp -/
/-- the calls of byOne -/
def HsB (P : List Fm) (c0 n N : Nat) : Prop := ∀ (M : Mem) (c p : Nat) (l : List Fm) (g : Nat), HsS P c0 M c p l → g < c → Sub (ag (dR M g)) P → (∀ f, f ∈ l → Irr l f) → Jvm.Term.arg 8 ∉ l → ((∃ k, dR M g = .arg k ∧ dR M g ∉ l) ∨ ∃ a b, dR M g = .sub a b ∧ ¬ EL l a ∧ ¬ EL l b) → wS l + wG (dR M g) ≤ N → p + 41 * (wS l + wG (dR M g) + 2) ≤ 60000 → HsE (r_X11_canProve n 1 [.ref 89, .int (nI p), .int (nI (p + l.length)), .int (nI g)] M) P c0 M c (p + l.length) l (dR M g)
section BY6
variable {P : List Fm} {c0 : Nat} {M M1 M2 : Mem} {c c1 c2 p q q1 : Nat} {l l1 : List Fm} {G G1 : Fm} {e e1 : Option (Int32 × Mem)} {n N a b g m j i : Nat} {X Y C A : Fm}
set_option maxHeartbeats 4000000 in
theorem by_3 (hP : P.length ≤ 40) (hc0 : c0 + 41 < 16384) (hK : HsK P c0 (n + 1) N) (hI : ∀ f, f ∈ l → Irr l f) (h8 : Jvm.Term.arg 8 ∉ l) (hG : (∃ k, G = .arg k ∧ G ∉ l) ∨ ∃ a b, G = .sub a b ∧ ¬ EL l a ∧ ¬ EL l b) (hag : Sub (ag G) P) (hm : wS l + wG G = m) (hmN : m ≤ N + 1) (hr : p + 41 * (m + 2) ≤ 60000) : ∀ z i, i + z = l.length → (∀ i' (h : i' < l.length), i' < i → ∀ x y c, l[i'] = .add (.add x y) c → ∃ l1, Rw l l[i'] [x, .add y c] l1 ∧ ¬ EL l1 y) → ∀ (M : Mem) (c : Nat), HsS P c0 M c p l → g < c → dR M g = G → HsE (lp (st_X11_byOne (r_X11_canProve (n + 1)) (n + 2)) (3, [.ref 89, .int (nI p), .int (nI (p + l.length)), .int (nI g), .int (nI (p + i))], M)) P c0 M c (p + l.length) l G := by
  intro z
  induction z with
  | zero =>
    intro i hi hno M c hS hg hd
    have hl := hS.len hP
    refine HsE.eq (HsE.no hS (el_irr hI h8 (fun x y c hf => ?_) hG)) ?_
    · obtain ⟨i', hi', e⟩ := List.getElem_of_mem hf
      obtain ⟨l1, r1, r2⟩ := hno i' hi' (by omega) x y c e
      rw [e] at r1
      exact ⟨l1, r1, r2⟩
    · refine (ge_X11_byOne_3 (r_X11_canProve (n + 1)) (n + 2) 89 (nI p) (nI (p + l.length)) (nI g) (nI (p + i)) M).trans ?_
      unfold T_X11_byOne_3
      have hle : (nI (p + l.length) ≤ nI (p + i)) = True := eq_true (by rw [nI_le_ (by omega) (by omega)]; omega)
      simp only [hle, ↓reduceIte]
  | succ z ih =>
    intro i hi hno M c hS hg hd
    have hW := hS.1
    have hT := hS.2.1
    have hl := hS.len hP
    have hcc := hS.cle hP
    have hil : i < l.length := by omega
    have hnd := hS.2.2.2.2.2.1
    obtain ⟨v, v1, v2, v3⟩ := hS.2.2.2.2.1 i hil
    have hle : (nI (p + l.length) ≤ nI (p + i)) = False := eq_false (by rw [nI_le_ (by omega) (by omega)]; omega)
    have fv : ∀ {a : Nat}, a < 126 → M.2.1 a = .inl (1, 16384) → ∀ {u : Nat}, u < c → fA M a 1 (nI u) := fun {a} h1 h2 {u} hu => fA_R hW h1 h2 (show u < 16384 by omega) (by omega)
    have hel : l[i] ∈ l := List.getElem_mem hil
    rcases hI _ hel with ⟨k, ek⟩ | ⟨k, C, ek, -⟩ | ⟨X, Y, C, ek⟩
    · -- an atom
      have e0 := tab_leaf hT v1 (v3.trans ek)
      have q9 : (nI k = (9 : Int32)) = False := kne (k := 9) (by omega) (by omega) (by omega)
      refine HsE.eq (ih (i + 1) (by omega) (fun i' h' hh x y c' e' => ?_) M c hS hg hd) ?_
      · by_cases ei : i' = i
        · subst ei; rw [ek] at e'; cases e'
        · exact hno i' h' (by omega) x y c' e'
      · refine (ge_X11_byOne_3 (r_X11_canProve (n + 1)) (n + 2) 89 (nI p) (nI (p + l.length)) (nI g) (nI (p + i)) M).trans ?_
        unfold T_X11_byOne_3
        simp (disch := omega) only [hle, ↓reduceIte, ↓gd_pos (fO_R hW), ↓bnd_of (r_89_60 hW), ↓gd_pos (f125 hW (show p + i < 60000 by omega)), nI_z, v2, ↓bnd_of (r_89_1 hW), ↓gd_pos (fv (a := 90) (by omega) (s_90 hW) v1), e0.1, q9, nI_1]
        rfl
    · -- an imp from an atom
      obtain ⟨a, b, ha, hb, e0, e1, e2, e3, e4⟩ := tab_node (A := .arg k) (B := C) (j := 9) hT v1 (by omega) (by omega) (v3.trans ek)
      have e5 := tab_leaf hT (show a < c by omega) e3
      have q9 : (nI k = (9 : Int32)) = False := kne (k := 9) (by omega) (by omega) (by omega)
      have t9 : (nI 9 = (9 : Int32)) = True := eq_true rfl
      refine HsE.eq (ih (i + 1) (by omega) (fun i' h' hh x y c' e' => ?_) M c hS hg hd) ?_
      · by_cases ei : i' = i
        · subst ei; rw [ek] at e'; cases e'
        · exact hno i' h' (by omega) x y c' e'
      · refine (ge_X11_byOne_3 (r_X11_canProve (n + 1)) (n + 2) 89 (nI p) (nI (p + l.length)) (nI g) (nI (p + i)) M).trans ?_
        unfold T_X11_byOne_3
        simp (disch := omega) only [hle, ↓reduceIte, ↓gd_pos (fO_R hW), ↓bnd_of (r_89_60 hW), ↓gd_pos (f125 hW (show p + i < 60000 by omega)), nI_z, v2, ↓bnd_of (r_89_1 hW), ↓gd_pos (fv (a := 90) (by omega) (s_90 hW) v1), e0, t9, ↓bnd_of (r_89_2 hW), ↓gd_pos (fv (a := 91) (by omega) (s_91 hW) v1), e1, ↓gd_pos (fv (a := 90) (by omega) (s_90 hW) (show a < c by omega)), e5.1, q9, nI_1]
        rfl
    · -- an imp from an imp
      obtain ⟨a, b, ha, hb, e0, e1, e2, e3, e4⟩ := tab_node (A := .add X Y) (B := C) (j := 9) hT v1 (by omega) (by omega) (v3.trans ek)
      obtain ⟨x, y, hx, hy, a0, a1, a2, a3, a4⟩ := tab_node (A := X) (B := Y) (j := 9) hT (show a < c by omega) (by omega) (by omega) e3
      have t9 : (nI 9 = (9 : Int32)) = True := eq_true rfl
      have hgr : Sub (gr (.add (.add X Y) C)) P := by rw [← ek]; exact hS.2.2.2.2.2.2 _ hel
      obtain ⟨u1, u2, u3⟩ := gr_iimp hgr
      have hfl : Jvm.Term.add (.add X Y) C ∈ l := by rw [← ek]; exact hel
      have he := ers_wS l i hil
      have hel2 := List.length_eraseIdx_of_lt hil
      have hw1 := sM_imp X Y C
      have hw2 := sM_imp2 X Y C
      rw [ek] at he
      have hbut : ∀ i', i' < l.length → (nI (p + i') = nI (p + i) ↔ i' = i) := fun i' h' => by
        rw [nI_eq (by omega) (by omega)]
        omega
      obtain ⟨M1, f1, F1, H1⟩ := rx_copiesHad hW hS.2.2.2.2.1 (but := nI (p + i)) (j := i) hbut (by omega) (n + 1)
      have g1 : Gwr M c (p + l.length) M1 c := Gwr.row F1 hT
      have hS1 : HsS P c0 M1 c (p + l.length) (l.eraseIdx i) := HsS.next hS g1 (hS.2.2.2.1.row F1) H1 (ers_nd hnd) (fun f hf => Or.inl (List.mem_of_mem_eraseIdx hf))
      obtain ⟨M2, f2, F2, H2⟩ := rx_withHad hS1.1 hS1.2.1 hS1.2.2.2.2.1 (show x < c by omega) (by omega) n
      rw [show dR M1 x = X by rw [d125 F1]; exact a3] at f2 H2
      have g2 : Gwr M1 c (p + l.length + (l.eraseIdx i).length) M2 c := Gwr.row F2 hS1.2.1
      have hS2 : HsS P c0 M2 c (p + l.length) (adl (l.eraseIdx i) X) := HsS.next hS1 (g2.mono (by omega)) (hS1.2.2.2.1.row F2) H2 (adl_nd (ers_nd hnd)) (fun f hf => (adl_mem.mp hf).imp id (fun e => by rw [e]; exact u1))
      have hl2 := hS2.len hP
      have ln1 := adl_len (l.eraseIdx i) X
      have e2' : M2.2.2.1 92 v = nI b := (F2.int (fun z => by have := z.1; omega)).trans ((F1.int (fun z => by have := z.1; omega)).trans e2)
      have dy2 : dR M2 y = Y := by rw [d125 F2, d125 F1]; exact a4
      have db2 : dR M2 b = C := by rw [d125 F2, d125 F1]; exact e4
      obtain ⟨i3, c3, M3, f3, i3c, d3, g3, n3, s3⟩ := cp_make hS2 hP hc0 (x := 9) (y := nI y) (z := nI b) (f := .add Y C) (Or.inr ⟨9, y, b, by omega, by omega, by omega, by omega, rfl, rfl, rfl, by rw [dy2, db2]; rfl⟩) (List.mem_cons_of_mem _ (gr_imp.mp u2).1) (p + l.length + (adl (l.eraseIdx i) X).length) (n + 1)
      have hS3 := hS2.gw g3 n3 (Nat.le_refl _)
      obtain ⟨M4, f4, F4, H4⟩ := rx_withHad hS3.1 hS3.2.1 hS3.2.2.2.2.1 i3c (by omega) n
      rw [d3] at f4 H4
      have g4 : Gwr M3 c3 (p + l.length + (adl (l.eraseIdx i) X).length) M4 c3 := Gwr.row F4 hS3.2.1
      have hS4 : HsS P c0 M4 c3 (p + l.length) (adl (adl (l.eraseIdx i) X) (.add Y C)) := HsS.next hS3 (g4.mono (by omega)) (n3.row F4) H4 (adl_nd (adl_nd (ers_nd hnd))) (fun f hf => (adl_mem.mp hf).imp id (fun e => by rw [e]; exact u2))
      have ln2 := adl_len (adl (l.eraseIdx i) X) (.add Y C)
      have gg4 : Gwr M c (p + l.length) M4 c3 := ((g1.trans g2 (by omega)).trans g3 (by omega)).trans g4 (by omega)
      have cc3 := gg4.2.2.1
      have w1 := adl_wS (l := l.eraseIdx i) (x := X)
      have w2 := adl_wS (l := adl (l.eraseIdx i) X) (x := .add Y C)
      have dy4 : dR M4 y = Y := (gg4.2.2.2 y (by omega)).trans a4
      have K1 := hK M4 c3 (p + l.length) _ y hS4 (by omega) (by rw [dy4]; exact u3) (by rw [dy4]; omega) (by rw [dy4]; omega)
      rw [dy4] at K1
      obtain ⟨w, M5, c5, k1, k2, k3, k4⟩ := K1
      have gg5 : Gwr M c (p + l.length) M5 c5 := gg4.trans k3 (by omega)
      have hS5 : HsS P c0 M5 c5 p l := hS.gw gg5 k4 (Nat.le_refl _)
      have cc5 := gg5.2.2.1
      have r1 := rw_2 (x := X) (y := .add Y C) hil hnd
      have start := ge_X11_byOne_3 (r_X11_canProve (n + 1)) (n + 2) 89 (nI p) (nI (p + l.length)) (nI g) (nI (p + i)) M
      rcases k2 with ⟨w1, ky⟩ | ⟨w0, kn⟩
      · -- proved: go on behind it
        subst w1
        have z1 : ((1 : Int32) = 0) = False := eq_false (by decide)
        obtain ⟨M6, f6, F6, H6⟩ := rx_copiesHad hS5.1 hS5.2.2.2.2.1 (but := nI (p + i)) (j := i) hbut (by omega) (n + 1)
        have g6 : Gwr M5 c5 (p + l.length) M6 c5 := Gwr.row F6 hS5.2.1
        have hS6 : HsS P c0 M6 c5 (p + l.length) (l.eraseIdx i) := HsS.next hS5 g6 (hS5.2.2.2.1.row F6) H6 (ers_nd hnd) (fun f hf => Or.inl (List.mem_of_mem_eraseIdx hf))
        have c5le := hS5.cle hP
        have dv6 : dR M6 v = .add (.add X Y) C := by rw [d125 F6]; exact (gg5.2.2.2 v v1).trans (v3.trans ek)
        obtain ⟨a', b', ha', hb', -, -, e2'', -, e4''⟩ := tab_node (A := .add X Y) (B := C) (j := 9) hS6.2.1 (show v < c5 by omega) (by omega) (by omega) dv6
        obtain ⟨M7, f7, F7, H7⟩ := rx_withHad hS6.1 hS6.2.1 hS6.2.2.2.2.1 (show b' < c5 by omega) (by omega) n
        rw [e4''] at f7 H7
        have g7 : Gwr M6 c5 (p + l.length + (l.eraseIdx i).length) M7 c5 := Gwr.row F7 hS6.2.1
        have hS7 : HsS P c0 M7 c5 (p + l.length) (adl (l.eraseIdx i) C) := HsS.next hS6 (g7.mono (by omega)) (hS6.2.2.2.1.row F7) H7 (adl_nd (ers_nd hnd)) (fun f hf => (adl_mem.mp hf).imp id (fun e => by rw [e]; exact (gr_imp.mp hgr).2.2))
        have gg7 : Gwr M c (p + l.length) M7 c5 := (gg5.trans g6 (Nat.le_refl _)).trans g7 (by omega)
        have w3 := adl_wS (l := l.eraseIdx i) (x := C)
        have ln3 := adl_len (l.eraseIdx i) C
        have dg7 : dR M7 g = G := (gg7.2.2.2 g hg).trans hd
        have K2 := hK M7 c5 (p + l.length) _ g hS7 (by omega) (by rw [dg7]; exact hag) (by rw [dg7]; omega) (by rw [dg7]; omega)
        rw [dg7] at K2
        have r2 := rw_1 (x := C) hil hnd
        rw [ek] at r1 r2
        refine HsE.eq (HsE.iff (HsE.pre (HsE.fin K2) gg7 (by omega)) (el_one hfl r1 ky r2)) (start.trans ?_)
        unfold T_X11_byOne_3
        simp (disch := omega) only [hle, ↓reduceIte, ↓gd_pos (fO_R hW), ↓bnd_of (r_89_60 hW), ↓gd_pos (f125 hW (show p + i < 60000 by omega)), nI_z, v2, ↓bnd_of (r_89_1 hW), ↓gd_pos (fv (a := 90) (by omega) (s_90 hW) v1), e0, t9, ↓bnd_of (r_89_2 hW), ↓gd_pos (fv (a := 91) (by omega) (s_91 hW) v1), e1, ↓gd_pos (fv (a := 90) (by omega) (s_90 hW) (show a < c by omega)), a0, ↓gd_pos (fv (a := 91) (by omega) (s_91 hW) (show a < c by omega)), ↓bnd_of (r_89_3 hW), ↓gd_pos (fv (a := 92) (by omega) (s_92 hW) (show a < c by omega)), a1, a2, ↓bnd2_of (show cal (n + 2) (fun zz => f_X11_copiesHad zz 89 (nI p) (nI (p + l.length)) (nI (p + i)) M) = _ from f1), ↓gd_pos (fO_R hS1.1), ↓bnd2_of (show cal (n + 2) (fun zz => f_X11_withHad zz 89 (nI (p + l.length)) (nI (p + l.length + (l.eraseIdx i).length)) (nI x) M1) = _ from f2), ↓gd_pos (fO_R hS2.1), ↓bnd_of (r_89_3 hS2.1), ↓gd_pos (fA_R hS2.1 (a := 92) (by omega) (s_92 hS2.1) (show v < 16384 by omega) (by omega)), e2', ↓bnd2_of (show cal (n + 2) (fun zz => f_X11_formula zz 89 9 (nI y) (nI b) M2) = _ from f3), ↓gd_pos (fO_R hS3.1), ↓bnd2_of (show cal (n + 2) (fun zz => f_X11_withHad zz 89 (nI (p + l.length)) (nI (p + l.length + (adl (l.eraseIdx i) X).length)) (nI i3) M3) = _ from f4), ↓gd_pos (fO_R hS4.1), ↓bnd2_of k1, z1, ↓gd_pos (fO_R hS5.1), ↓bnd2_of (show cal (n + 2) (fun zz => f_X11_copiesHad zz 89 (nI p) (nI (p + l.length)) (nI (p + i)) M5) = _ from f6), ↓gd_pos (fO_R hS6.1), ↓bnd_of (r_89_3 hS6.1), ↓gd_pos (fA_R hS6.1 (a := 92) (by omega) (s_92 hS6.1) (show v < 16384 by omega) (by omega)), e2'', ↓bnd2_of (show cal (n + 2) (fun zz => f_X11_withHad zz 89 (nI (p + l.length)) (nI (p + l.length + (l.eraseIdx i).length)) (nI b') M6) = _ from f7), ↓gd_pos (fO_R hS7.1)]
      · subst w0
        have I := ih (i + 1) (by omega) (fun i' h' hh x' y' c' e' => by
          by_cases ei : i' = i
          · subst ei
            rw [ek] at e'
            cases e'
            exact ⟨_, r1, kn⟩
          · exact hno i' h' (by omega) x' y' c' e') M5 c5 hS5 (by omega) ((gg5.2.2.2 g hg).trans hd)
        refine HsE.eq (HsE.pre I gg5 (Nat.le_refl _)) (start.trans ?_)
        unfold T_X11_byOne_3
        simp (disch := omega) only [hle, ↓reduceIte, ↓gd_pos (fO_R hW), ↓bnd_of (r_89_60 hW), ↓gd_pos (f125 hW (show p + i < 60000 by omega)), nI_z, v2, ↓bnd_of (r_89_1 hW), ↓gd_pos (fv (a := 90) (by omega) (s_90 hW) v1), e0, t9, ↓bnd_of (r_89_2 hW), ↓gd_pos (fv (a := 91) (by omega) (s_91 hW) v1), e1, ↓gd_pos (fv (a := 90) (by omega) (s_90 hW) (show a < c by omega)), a0, ↓gd_pos (fv (a := 91) (by omega) (s_91 hW) (show a < c by omega)), ↓bnd_of (r_89_3 hW), ↓gd_pos (fv (a := 92) (by omega) (s_92 hW) (show a < c by omega)), a1, a2, ↓bnd2_of (show cal (n + 2) (fun zz => f_X11_copiesHad zz 89 (nI p) (nI (p + l.length)) (nI (p + i)) M) = _ from f1), ↓gd_pos (fO_R hS1.1), ↓bnd2_of (show cal (n + 2) (fun zz => f_X11_withHad zz 89 (nI (p + l.length)) (nI (p + l.length + (l.eraseIdx i).length)) (nI x) M1) = _ from f2), ↓gd_pos (fO_R hS2.1), ↓bnd_of (r_89_3 hS2.1), ↓gd_pos (fA_R hS2.1 (a := 92) (by omega) (s_92 hS2.1) (show v < 16384 by omega) (by omega)), e2', ↓bnd2_of (show cal (n + 2) (fun zz => f_X11_formula zz 89 9 (nI y) (nI b) M2) = _ from f3), ↓gd_pos (fO_R hS3.1), ↓bnd2_of (show cal (n + 2) (fun zz => f_X11_withHad zz 89 (nI (p + l.length)) (nI (p + l.length + (adl (l.eraseIdx i) X).length)) (nI i3) M3) = _ from f4), ↓gd_pos (fO_R hS4.1), ↓bnd2_of k1, nI_1]
        rfl
theorem by_all (hP : P.length ≤ 40) (hc0 : c0 + 41 < 16384) (hK : HsK P c0 (n + 1) N) : HsB P c0 (n + 2) (N + 1) := by
  intro M c p l g hS hg hag hI h8 hG hm hr
  exact HsE.eq (by_3 (n := n) hP hc0 hK hI h8 hG hag rfl hm hr l.length 0 (by omega) (fun i' h' hh => by omega) M c hS hg rfl) (show r_X11_canProve (n + 2) 1 _ M = _ from ge_X11_byOne_0 (r_X11_canProve (n + 1)) (n + 2) 89 (nI p) (nI (p + l.length)) (nI g) M)
end BY6
