/-! THE REFERENCE's SEARCH: an imp taken apart, the ends -/
section CT4
variable {P : List Fm} {c0 : Nat} {M M1 M2 : Mem} {c c1 c2 p q q1 : Nat} {l l1 : List Fm} {G G1 : Fm} {e e1 : Option (Int32 × Mem)}
theorem HsE.fin (h : HsE e P c0 M c q l G) : HsE (bnd2 e none (fun v M1 => gd (narrow .boolean (.int v) = .int v) none (some (v, M1)))) P c0 M c q l G := by
  obtain ⟨v, M1, c1, rfl, a2, a3⟩ := h
  refine ⟨v, M1, c1, ?_, a2, a3⟩
  show gd (narrow .boolean (.int v) = .int v) none (some (v, M1)) = some (v, M1)
  rw [gd_pos (nb_ok a2)]
theorem Gwr.mono (h : Gwr M c q1 M1 c1) (hq : q ≤ q1) : Gwr M c q M1 c1 := ⟨h.1.mono (fun a k z => z.imp id (fun z => ⟨z.1, by have := z.2; omega⟩)), h.2⟩
theorem tab_node (hT : TabR M c) {i j : Nat} {A B : Fm} (hi : i < c) (h1 : 9 ≤ j) (h2 : j ≤ 11) (e : dR M i = mkF j A B) : ∃ a b, a < i ∧ b < i ∧ M.2.2.1 90 i = nI j ∧ M.2.2.1 91 i = nI a ∧ M.2.2.1 92 i = nI b ∧ dR M a = A ∧ dR M b = B := by
  rcases hT.cases hi with ⟨j', hj, e1, e2, e3, e4⟩ | ⟨j', a, b, g1, g2, ha, hb, e1, e2, e3, e4⟩
  · rw [e4] at e
    exact (mkF_ne e.symm).elim
  · rw [e4] at e
    obtain ⟨x, y, z⟩ := mkF_inj g1 g2 h1 h2 e
    subst x
    exact ⟨a, b, ha, hb, e1, e2, e3, y, z⟩
theorem tab_leaf (hT : TabR M c) {i j : Nat} (hi : i < c) (e : dR M i = .arg j) : M.2.2.1 90 i = nI j ∧ j < 9 := by
  rcases hT.cases hi with ⟨j', hj, e1, e2, e3, e4⟩ | ⟨j', a, b, g1, g2, ha, hb, e1, e2, e3, e4⟩
  · rw [e4] at e
    cases e
    exact ⟨e1, hj⟩
  · rw [e4] at e
    exact (mkF_ne e).elim
theorem kne {j k : Nat} (hj : j < 20) (hk : k < 20) (h : j ≠ k) : (nI j = nI k) = False := eq_false (fun z => h ((nI_eq (by omega) (by omega)).mp z))
variable {n N a b g m j : Nat} {X Y C : Fm}
set_option maxHeartbeats 1000000 in
theorem cp_321n (hP : P.length ≤ 40) (hc0 : c0 + 41 < 16384) (hK : HsK P c0 (n + 1) N) (hS : HsS P c0 M c q l) (ha : a < c) (hj : j < 20) (hk : M.2.2.1 90 a = nI j) (h11 : j ≠ 11) (hg : g < c) (hag : Sub (ag (dR M g)) P) (hm : wS l + wG (dR M g) < N) (hr : q + 41 * (wS l + wG (dR M g) + 2) ≤ 60000) : HsE (lp (st_X11_canProve (r_X11_canProve (n + 1)) (n + 2)) (321, [.ref 89, .int (nI q), .int (nI g), .int (nI a), .int (nI b), .int (nI (q + l.length))], M)) P c0 M c (q + l.length) l (dR M g) := by
  have hcc := hS.cle hP
  refine HsE.eq (HsE.fin (hK M c q l g hS hg hag hm hr)) ?_
  refine (ge_X11_canProve_321 (r_X11_canProve (n + 1)) (n + 2) 89 (nI q) (nI g) (nI a) (nI b) (nI (q + l.length)) M).trans ?_
  unfold T_X11_canProve_321
  have q11 : (nI j = (11 : Int32)) = False := kne (k := 11) hj (by omega) h11
  simp (disch := omega) only [↓gd_pos (fO_R hS.1), ↓bnd_of (r_89_1 hS.1), ↓gd_pos (fA_R hS.1 (a := 90) (by omega) (s_90 hS.1) (show a < 16384 by omega) (by omega)), nI_z, hk, q11, ↓reduceIte]
set_option maxHeartbeats 2000000 in
theorem cp_321o (hP : P.length ≤ 40) (hc0 : c0 + 41 < 16384) (hK : HsK P c0 (n + 1) N) (hS : HsS P c0 M c q l) (ha : a < c) (hA : dR M a = .sub X Y) (hb : b < c) (hC : dR M b = C) (h1 : Sub (gr (.add X C)) P) (h2 : Sub (gr (.add Y C)) P) (hg : g < c) (hag : Sub (ag (dR M g)) P) (hm : wS l + wM (.add X C) + wM (.add Y C) + wG (dR M g) ≤ m) (hmN : m < N) (hr : q + 41 * (m + 2) ≤ 60000) : HsE (lp (st_X11_canProve (r_X11_canProve (n + 1)) (n + 2)) (321, [.ref 89, .int (nI q), .int (nI g), .int (nI a), .int (nI b), .int (nI (q + l.length))], M)) P c0 M c (q + l.length) (adl (adl l (.add X C)) (.add Y C)) (dR M g) := by
  have hW := hS.1
  have hcc := hS.cle hP
  have hl := hS.len hP
  obtain ⟨x, y, x1, y1, e0, e1, e2, e3, e4⟩ := tab_node (A := X) (B := Y) (j := 11) hS.2.1 ha (by omega) (by omega) hA
  -- the first
  obtain ⟨i1, c1, M1, f1, i1c, d1, g1, n1, s1⟩ := cp_make hS hP hc0 (x := 9) (y := nI x) (z := nI b) (f := .add X C) (Or.inr ⟨9, x, b, by omega, by omega, by omega, hb, rfl, rfl, rfl, by rw [e3, hC]; rfl⟩) (List.mem_cons_of_mem _ (gr_imp.mp h1).1) (q + l.length) (n + 1)
  have hS1 : HsS P c0 M1 c1 q l := hS.gw g1 n1 (Nat.le_refl _)
  obtain ⟨M2, f2, F2, H2⟩ := rx_withHad hS1.1 hS1.2.1 hS1.2.2.2.2.1 i1c (by omega) n
  rw [d1] at f2 H2
  have g2 : Gwr M1 c1 (q + l.length) M2 c1 := Gwr.row F2 hS1.2.1
  have hS2 : HsS P c0 M2 c1 q (adl l (.add X C)) := HsS.next hS1 (g2.mono (by omega)) (n1.row F2) H2 (adl_nd hS.2.2.2.2.2.1) (fun f hf => (adl_mem.mp hf).imp id (fun e => by rw [e]; exact h1))
  have hl2 := hS2.len hP
  -- the second
  have c2le := hS2.cle hP
  have cc1 := g1.2.2.1
  have dA2 : dR M2 a = .sub X Y := (g2.2.2.2 a (by omega)).trans ((g1.2.2.2 a ha).trans hA)
  have dC2 : dR M2 b = C := (g2.2.2.2 b (by omega)).trans ((g1.2.2.2 b hb).trans hC)
  obtain ⟨x', y', x1', y1', e0', e1', e2', e3', e4'⟩ := tab_node (A := X) (B := Y) (j := 11) hS2.2.1 (show a < c1 by omega) (by omega) (by omega) dA2
  obtain ⟨i3, c3, M3, f3, i3c, d3, g3, n3, s3⟩ := cp_make hS2 hP hc0 (x := 9) (y := nI y') (z := nI b) (f := .add Y C) (Or.inr ⟨9, y', b, by omega, by omega, by omega, by omega, rfl, rfl, rfl, by rw [e4', dC2]; rfl⟩) (List.mem_cons_of_mem _ (gr_imp.mp h2).1) (q + (adl l (.add X C)).length) (n + 1)
  have hS3 := hS2.gw g3 n3 (Nat.le_refl _)
  obtain ⟨M4, f4, F4, H4⟩ := rx_withHad hS3.1 hS3.2.1 hS3.2.2.2.2.1 i3c (by omega) n
  rw [d3] at f4 H4
  have g4 : Gwr M3 c3 (q + (adl l (.add X C)).length) M4 c3 := Gwr.row F4 hS3.2.1
  have hS4 : HsS P c0 M4 c3 q (adl (adl l (.add X C)) (.add Y C)) := HsS.next hS3 (g4.mono (by omega)) (n3.row F4) H4 (adl_nd (adl_nd hS.2.2.2.2.2.1)) (fun f hf => (adl_mem.mp hf).imp id (fun e => by rw [e]; exact h2))
  have len1 : l.length ≤ (adl l (.add X C)).length := by
    unfold adl
    rcases Classical.em (Jvm.Term.add X C ∈ l) with z | z
    · rw [itc_pos z]; exact Nat.le_refl _
    · rw [itc_neg z, List.length_append]; omega
  have len2 : (adl l (.add X C)).length ≤ (adl (adl l (.add X C)) (.add Y C)).length := by
    conv => rhs; unfold adl
    rcases Classical.em (Jvm.Term.add Y C ∈ itc (Jvm.Term.add X C ∈ l) l (l ++ [.add X C])) with z | z
    · rw [itc_pos z]; exact Nat.le_refl _
    · rw [itc_neg z, List.length_append]; unfold adl; omega
  have gg : Gwr M c (q + l.length) M4 c3 := ((g1.trans g2 (Nat.le_refl _)).trans g3 (by omega)).trans g4 (by omega)
  have w1 := adl_wS (l := l) (x := .add X C)
  have w2 := adl_wS (l := adl l (.add X C)) (x := .add Y C)
  have dg := gg.2.2.2 g hg
  have cc3 := gg.2.2.1
  have K := hK M4 c3 q _ g hS4 (by omega) (by rw [dg]; exact hag) (by rw [dg]; omega) (by rw [dg]; omega)
  rw [dg] at K
  refine HsE.eq (HsE.pre (HsE.fin K) gg (by omega)) ?_
  refine (ge_X11_canProve_321 (r_X11_canProve (n + 1)) (n + 2) 89 (nI q) (nI g) (nI a) (nI b) (nI (q + l.length)) M).trans ?_
  unfold T_X11_canProve_321
  have q11 : (nI 11 = (11 : Int32)) = True := eq_true rfl
  simp (disch := omega) only [↓gd_pos (fO_R hW), ↓bnd_of (r_89_1 hW), ↓bnd_of (r_89_2 hW), ↓gd_pos (fA_R hW (a := 90) (by omega) (s_90 hW) (show a < 16384 by omega) (by omega)), ↓gd_pos (fA_R hW (a := 91) (by omega) (s_91 hW) (show a < 16384 by omega) (by omega)), nI_z, e0, q11, ↓reduceIte, e1, ↓bnd2_of (show cal (n + 2) (fun zz => f_X11_formula zz 89 9 (nI x) (nI b) M) = _ from f1), ↓gd_pos (fO_R hS1.1), ↓bnd2_of (show cal (n + 2) (fun zz => f_X11_withHad zz 89 (nI q) (nI (q + l.length)) (nI i1) M1) = _ from f2), ↓gd_pos (fO_R hS2.1), ↓bnd_of (r_89_3 hS2.1), ↓gd_pos (fA_R hS2.1 (a := 92) (by omega) (s_92 hS2.1) (show a < 16384 by omega) (by omega)), e2', ↓bnd2_of (show cal (n + 2) (fun zz => f_X11_formula zz 89 9 (nI y') (nI b) M2) = _ from f3), ↓gd_pos (fO_R hS3.1), ↓bnd2_of (show cal (n + 2) (fun zz => f_X11_withHad zz 89 (nI q) (nI (q + (adl l (.add X C)).length)) (nI i3) M3) = _ from f4), ↓gd_pos (fO_R hS4.1)]
end CT4
