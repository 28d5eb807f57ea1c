/-! THE REFERENCE's SEARCH: an imp taken apart, whole -/
section CU5
variable {P : List Fm} {c0 : Nat} {M M1 M2 : Mem} {c c1 c2 p q q1 : Nat} {l l1 : List Fm} {G G1 : Fm} {e e1 : Option (Int32 × Mem)} {n N a b g m j i : Nat} {X Y C A : Fm}
theorem adl_len (l : List Fm) (x : Fm) : l.length ≤ (adl l x).length := by
  unfold adl
  rcases Classical.em (x ∈ l) with z | z
  · rw [itc_pos z]; exact Nat.le_refl _
  · rw [itc_neg z, List.length_append]; omega
set_option maxHeartbeats 1000000 in
theorem cp_272n (hP : P.length ≤ 40) (hc0 : c0 + 41 < 16384) (hS : HsS P c0 M c q l) (ha : a < c) (hj : j < 20) (hk : M.2.2.1 90 a = nI j) (h10 : j ≠ 10) (x8 : Int32) : lp (st_X11_canProve (r_X11_canProve (n + 1)) (n + 2)) (272, [.ref 89, .int (nI q), .int (nI g), .int (nI a), .int (nI b), .int x8], M) = lp (st_X11_canProve (r_X11_canProve (n + 1)) (n + 2)) (321, [.ref 89, .int (nI q), .int (nI g), .int (nI a), .int (nI b), .int x8], M) := by
  have hcc := hS.cle hP
  refine (ge_X11_canProve_272 (r_X11_canProve (n + 1)) (n + 2) 89 (nI q) (nI g) (nI a) (nI b) x8 M).trans ?_
  unfold T_X11_canProve_272
  have q10 : (nI j = (10 : Int32)) = False := kne (k := 10) hj (by omega) h10
  simp (disch := omega) only [↓gd_pos (fO_R hS.1), ↓bnd_of (r_89_1 hS.1), ↓gd_pos (fA_R hS.1 (a := 90) (by omega) (s_90 hS.1) (show a < 16384 by omega) (by omega)), nI_z, hk, q10, ↓reduceIte]
set_option maxHeartbeats 2000000 in
theorem cp_272a (hP : P.length ≤ 40) (hc0 : c0 + 41 < 16384) (hK : HsK P c0 (n + 1) N) (hS : HsS P c0 M c q l) (ha : a < c) (hA : dR M a = .mul X Y) (hb : b < c) (hC : dR M b = C) (h1 : Sub (gr (.add X (.add Y C))) P) (h2 : (Jvm.Term.add Y C) ∈ P) (hg : g < c) (hag : Sub (ag (dR M g)) P) (hm : wS l + wM (.add X (.add Y C)) + wG (dR M g) ≤ m) (hmN : m < N) (hr : q + 41 * (m + 2) ≤ 60000) : HsE (lp (st_X11_canProve (r_X11_canProve (n + 1)) (n + 2)) (272, [.ref 89, .int (nI q), .int (nI g), .int (nI a), .int (nI b), .int (nI (q + l.length))], M)) P c0 M c (q + l.length) (adl l (.add X (.add Y C))) (dR M g) := by
  have hW := hS.1
  have hcc := hS.cle hP
  have hl := hS.len hP
  obtain ⟨x, y, x1, y1, e0, e1, e2, e3, e4⟩ := tab_node (A := X) (B := Y) (j := 10) hS.2.1 ha (by omega) (by omega) hA
  obtain ⟨i1, c1, M1, f1, i1c, d1, g1, n1, s1⟩ := cp_make hS hP hc0 (x := 9) (y := nI y) (z := nI b) (f := .add Y C) (Or.inr ⟨9, y, b, by omega, by omega, by omega, hb, rfl, rfl, rfl, by rw [e4, hC]; rfl⟩) (List.mem_cons_of_mem _ h2) (q + l.length) (n + 1)
  have hS1 : HsS P c0 M1 c1 q l := hS.gw g1 n1 (Nat.le_refl _)
  have cc1 := g1.2.2.1
  have c1le := hS1.cle hP
  have dx1 : dR M1 x = X := (g1.2.2.2 x (by omega)).trans e3
  obtain ⟨i2, c2, M2, f2, i2c, d2, g2, n2, s2⟩ := cp_make hS1 hP hc0 (x := 9) (y := nI x) (z := nI i1) (f := .add X (.add Y C)) (Or.inr ⟨9, x, i1, by omega, by omega, by omega, i1c, rfl, rfl, rfl, by rw [dx1, d1]; rfl⟩) (List.mem_cons_of_mem _ (gr_imp.mp h1).1) (q + l.length) (n + 1)
  have hS2 : HsS P c0 M2 c2 q l := hS1.gw g2 n2 (Nat.le_refl _)
  obtain ⟨M3, f3, F3, H3⟩ := rx_withHad hS2.1 hS2.2.1 hS2.2.2.2.2.1 i2c (by omega) n
  rw [d2] at f3 H3
  have g3 : Gwr M2 c2 (q + l.length) M3 c2 := Gwr.row F3 hS2.2.1
  have hS3 : HsS P c0 M3 c2 q (adl l (.add X (.add Y C))) := HsS.next hS2 (g3.mono (by omega)) (n2.row F3) H3 (adl_nd hS.2.2.2.2.2.1) (fun f hf => (adl_mem.mp hf).imp id (fun e => by rw [e]; exact h1))
  have gg : Gwr M c (q + l.length) M3 c2 := (g1.trans g2 (Nat.le_refl _)).trans g3 (Nat.le_refl _)
  have cc2 := gg.2.2.1
  have dA3 : dR M3 a = .mul X Y := (gg.2.2.2 a ha).trans hA
  obtain ⟨x', y', -, -, e0', -⟩ := tab_node (A := X) (B := Y) (j := 10) hS3.2.1 (show a < c2 by omega) (by omega) (by omega) dA3
  have w1 := adl_wS (l := l) (x := .add X (.add Y C))
  have dg := gg.2.2.2 g hg
  have ln := adl_len l (.add X (.add Y C))
  have K := cp_321n (n := n) (b := b) hP hc0 hK hS3 (show a < c2 by omega) (j := 10) (by omega) e0' (by omega) (show g < c2 by omega) (by rw [dg]; exact hag) (by rw [dg]; omega) (by rw [dg]; omega)
  rw [dg] at K
  refine HsE.eq (HsE.pre K gg (by omega)) ?_
  refine (ge_X11_canProve_272 (r_X11_canProve (n + 1)) (n + 2) 89 (nI q) (nI g) (nI a) (nI b) (nI (q + l.length)) M).trans ?_
  unfold T_X11_canProve_272
  have q10 : (nI 10 = (10 : Int32)) = True := eq_true rfl
  simp (disch := omega) only [↓gd_pos (fO_R hW), ↓bnd_of (r_89_1 hW), ↓bnd_of (r_89_2 hW), ↓bnd_of (r_89_3 hW), ↓gd_pos (fA_R hW (a := 90) (by omega) (s_90 hW) (show a < 16384 by omega) (by omega)), ↓gd_pos (fA_R hW (a := 91) (by omega) (s_91 hW) (show a < 16384 by omega) (by omega)), ↓gd_pos (fA_R hW (a := 92) (by omega) (s_92 hW) (show a < 16384 by omega) (by omega)), nI_z, e0, q10, ↓reduceIte, e1, e2, ↓bnd2_of (show cal (n + 2) (fun zz => f_X11_formula zz 89 9 (nI y) (nI b) M) = _ from f1), ↓gd_pos (fO_R hS1.1), ↓bnd2_of (show cal (n + 2) (fun zz => f_X11_formula zz 89 9 (nI x) (nI i1) M1) = _ from f2), ↓gd_pos (fO_R hS2.1), ↓bnd2_of (show cal (n + 2) (fun zz => f_X11_withHad zz 89 (nI q) (nI (q + l.length)) (nI i2) M2) = _ from f3)]
theorem w_row (hi : i < l.length) {x : Fm} : wS (adl (l.eraseIdx i) x) + wM l[i] ≤ wS l + wM x := by
  have h1 := ers_wS l i hi
  have h2 := adl_wS (l := l.eraseIdx i) (x := x)
  omega
set_option maxHeartbeats 4000000 in
theorem cp_224 (hP : P.length ≤ 40) (hc0 : c0 + 41 < 16384) (hK : HsK P c0 (n + 1) N) (hS : HsS P c0 M c p l) (hi : i < l.length) (hf : l[i] = .add A C) (ha : a < c) (hA : dR M a = A) (hb : b < c) (hC : dR M b = C) (hA9 : ∀ x y, A ≠ .add x y) (hAt : ∀ k, A = .arg k → k ≠ 8 → A ∈ l) (hg : g < c) (hag : Sub (ag (dR M g)) P) (hm : wS l + wG (dR M g) = m) (hmN : m ≤ N) (hr : p + 41 * (m + 2) ≤ 60000) : HsE (lp (st_X11_canProve (r_X11_canProve (n + 1)) (n + 2)) (224, [.ref 89, .int (nI p), .int (nI (p + l.length)), .int (nI g), .int (nI (p + i)), .int (nI a), .int (nI b)], M)) P c0 M c (p + l.length) l (dR M g) := by
  have hW := hS.1
  have hcc := hS.cle hP
  have hl := hS.len hP
  have hT := hS.2.1
  have hnd := hS.2.2.2.2.2.1
  have hel : l[i] ∈ l := List.getElem_mem hi
  have hgr : Sub (gr (.add A C)) P := by rw [← hf]; exact hS.2.2.2.2.2.2 _ hel
  have hfl : Jvm.Term.add A C ∈ l := by rw [← hf]; exact hel
  have he := ers_wS l i hi
  rw [hf] at he
  have hel2 := List.length_eraseIdx_of_lt hi
  -- the copy
  obtain ⟨M1, f1, F1, H1⟩ := rx_copiesHad hW hS.2.2.2.2.1 (but := nI (p + i)) (j := i) (fun i' h' => by
    rw [nI_eq (by omega) (by omega)]
    omega) (by omega) (n + 1)
  have g1 : Gwr M c (p + l.length) M1 c := Gwr.row F1 hT
  have hS1 : HsS P c0 M1 c (p + l.length) (l.eraseIdx i) := HsS.next hS g1 (hS.2.2.2.1.row F1) H1 (ers_nd hnd) (fun f hf => Or.inl (List.mem_of_mem_eraseIdx hf))
  have dA1 : dR M1 a = A := by rw [d125 F1]; exact hA
  have dC1 : dR M1 b = C := by rw [d125 F1]; exact hC
  have dg1 : dR M1 g = dR M g := by rw [d125 F1]
  -- the way there, by the kind
  have st : ∀ {j : Nat}, j < 9 ∨ j = 10 ∨ j = 11 → M.2.2.1 90 a = nI j → M1.2.2.1 90 a = nI j → lp (st_X11_canProve (r_X11_canProve (n + 1)) (n + 2)) (224, [.ref 89, .int (nI p), .int (nI (p + l.length)), .int (nI g), .int (nI (p + i)), .int (nI a), .int (nI b)], M) = if 8 ≤ nI j then lp (st_X11_canProve (r_X11_canProve (n + 1)) (n + 2)) (272, [.ref 89, .int (nI (p + l.length)), .int (nI g), .int (nI a), .int (nI b), .int (nI (p + l.length + (l.eraseIdx i).length))], M1) else bnd2 (f_X11_withHad (n + 1) 89 (nI (p + l.length)) (nI (p + l.length + (l.eraseIdx i).length)) (nI b) M1) none (fun v24 M25 => lp (st_X11_canProve (r_X11_canProve (n + 1)) (n + 2)) (272, [.ref 89, .int (nI (p + l.length)), .int (nI g), .int (nI a), .int (nI b), .int v24], M25)) := by
    intro j hj e0 e1
    refine (ge_X11_canProve_224 (r_X11_canProve (n + 1)) (n + 2) 89 (nI p) (nI (p + l.length)) (nI g) (nI (p + i)) (nI a) (nI b) M).trans ?_
    unfold T_X11_canProve_224
    have q9 : (nI j = (9 : Int32)) = False := kne (k := 9) (by omega) (by omega) (by omega)
    simp (disch := omega) only [↓gd_pos (fO_R hW), ↓bnd_of (r_89_1 hW), ↓gd_pos (fA_R hW (a := 90) (by omega) (s_90 hW) (show a < 16384 by omega) (by omega)), nI_z, e0, q9, ↓reduceIte, ↓bnd2_of (show cal (n + 2) (fun zz => f_X11_copiesHad zz 89 (nI p) (nI (p + l.length)) (nI (p + i)) M) = _ from f1), ↓gd_pos (fO_R hS1.1), ↓bnd_of (r_89_1 hS1.1), ↓gd_pos (fA_R hS1.1 (a := 90) (by omega) (s_90 hS1.1) (show a < 16384 by omega) (by omega)), e1]
    rfl
  have big : ∀ {j : Nat}, j < 20 → ((8 : Int32) ≤ nI j ↔ 8 ≤ j) := fun h => by rw [show (8 : Int32) = nI 8 from rfl, nI_le_ (by omega) (by omega)]
  have ln1 : p + l.length ≤ p + l.length + (l.eraseIdx i).length := by omega
  rcases hT.cases ha with ⟨j, hj, e0, -, -, e4⟩ | ⟨j, x, y, j1, j2, hx, hy, e0, -, -, e4⟩
  · rw [hA] at e4
    have e0' := (tab_leaf hS1.2.1 ha (dA1.trans e4)).1
    have s := st (Or.inl hj) e0 e0'
    by_cases h8 : j = 8
    · -- no
      subst h8
      rw [if_pos ((big (by omega)).mpr (by omega)), cp_272n (g := g) (b := b) hP hc0 hS1 ha (by omega) e0' (by omega)] at s
      have hw : 1 + wM C ≤ wM (.add A C) := by rw [e4]; exact sM_atom 8 C
      have K := cp_321n (n := n) (b := b) hP hc0 hK hS1 ha (by omega) e0' (by omega) hg (by rw [dg1]; exact hag) (by rw [dg1]; omega) (by rw [dg1]; omega)
      rw [dg1] at K
      refine HsE.eq (HsE.iff (HsE.pre K g1 ln1) ?_) s
      have r := rw_0 hi hnd
      rw [hf, e4] at r
      exact el_no r
    · -- an atom that is there
      rw [if_neg (fun z => by have := (big (by omega)).mp z; omega)] at s
      have hw : 1 + wM C ≤ wM (.add A C) := by rw [e4]; exact sM_atom j C
      obtain ⟨M2, f2, F2, H2⟩ := rx_withHad hS1.1 hS1.2.1 hS1.2.2.2.2.1 hb (by omega) n
      rw [dC1] at f2 H2
      have g2 : Gwr M1 c (p + l.length + (l.eraseIdx i).length) M2 c := Gwr.row F2 hS1.2.1
      have hS2 : HsS P c0 M2 c (p + l.length) (adl (l.eraseIdx i) C) := HsS.next hS1 (g2.mono (by omega)) (hS1.2.2.2.1.row F2) H2 (adl_nd (ers_nd hnd)) (fun f hf => (adl_mem.mp hf).imp id (fun e => by rw [e]; exact (gr_imp.mp hgr).2.2))
      have dA2 : dR M2 a = .arg j := by rw [d125 F2]; exact dA1.trans e4
      have e0'' := (tab_leaf hS2.2.1 ha dA2).1
      have dg2 : dR M2 g = dR M g := by rw [d125 F2]; exact dg1
      rw [f2] at s
      have s := s.trans (cp_272n (n := n) (g := g) (b := b) hP hc0 hS2 ha (by omega) e0'' (by omega) _)
      have w1 := adl_wS (l := l.eraseIdx i) (x := C)
      have K := cp_321n (n := n) (b := b) hP hc0 hK hS2 ha (by omega) e0'' (by omega) hg (by rw [dg2]; exact hag) (by rw [dg2]; omega) (by rw [dg2]; omega)
      rw [dg2] at K
      refine HsE.eq (HsE.iff (HsE.pre (HsE.pre K g2 (by have := adl_len (l.eraseIdx i) C; omega)) g1 ln1) ?_) s
      have r := rw_1 (x := C) hi hnd
      rw [hf] at r
      exact el_atom hfl (hAt j e4 h8) r
  · rw [hA] at e4
    have j3 : j = 10 ∨ j = 11 := by
      have : j ≠ 9 := fun z => hA9 (dR M x) (dR M y) (by rw [e4, z]; rfl)
      omega
    obtain ⟨x', y', -, -, e0', -⟩ := tab_node (A := dR M x) (B := dR M y) (j := j) hS1.2.1 ha j1 j2 (dA1.trans e4)
    have s := st (Or.inr j3) e0 e0'
    rw [if_pos ((big (by omega)).mpr (by omega))] at s
    rcases j3 with rfl | rfl
    · have e4 : A = .mul (dR M x) (dR M y) := e4
      rw [e4] at hgr
      obtain ⟨u1, u2⟩ := gr_iand hgr
      have hw : wM (.add A C) = 1 + wM (.add (dR M x) (.add (dR M y) C)) := by rw [e4]; exact sM_and _ _ _
      have K := cp_272a (n := n) (m := m - 1) hP hc0 hK hS1 ha (dA1.trans e4) hb dC1 u1 u2 hg (by rw [dg1]; exact hag) (by rw [dg1]; omega) (by omega) (by omega)
      rw [dg1] at K
      refine HsE.eq (HsE.iff (HsE.pre K g1 ln1) ?_) s
      have r := rw_1 (x := .add (dR M x) (.add (dR M y) C)) hi hnd
      rw [hf, e4] at r
      exact el_iand (by rw [← e4]; exact hfl) r
    · have e4 : A = .sub (dR M x) (dR M y) := e4
      rw [e4] at hgr
      obtain ⟨u1, u2⟩ := gr_ior hgr
      have hw : wM (.add A C) = 1 + wM (.add (dR M x) C) + wM (.add (dR M y) C) := by rw [e4]; exact sM_or _ _ _
      rw [cp_272n (g := g) (b := b) hP hc0 hS1 ha (by omega) e0' (by omega)] at s
      have K := cp_321o (n := n) (m := m - 1) hP hc0 hK hS1 ha (dA1.trans e4) hb dC1 u1 u2 hg (by rw [dg1]; exact hag) (by rw [dg1]; omega) (by omega) (by omega)
      rw [dg1] at K
      refine HsE.eq (HsE.iff (HsE.pre K g1 ln1) ?_) s
      have r := rw_2 (x := .add (dR M x) C) (y := .add (dR M y) C) hi hnd
      rw [hf, e4] at r
      exact el_ior (by rw [← e4]; exact hfl) r
end CU5
