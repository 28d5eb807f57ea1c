/-! THE REFERENCE's SEARCH: by the goal -/
section GO7
variable {P : List Fm} {c0 : Nat} {M M1 M2 : Mem} {c c1 c2 p q q1 : Nat} {l l1 : List Fm} {G G1 : Fm} {e e1 : Option (Int32 × Mem)} {n N a b g m j i : Nat} {X Y C A : Fm}
set_option maxHeartbeats 4000000 in
theorem cp_goal (hP : P.length ≤ 40) (hc0 : c0 + 41 < 16384) (hK : HsK P c0 (n + 1) N) (hB : HsB P c0 (n + 1) N) (hS : HsS P c0 M c p l) (hg : g < c) (hag : Sub (ag (dR M g)) P) (h8 : Jvm.Term.arg 8 ∉ l) (hng : dR M g ∉ l) (hI : ∀ f, f ∈ l → Irr l f) (hm : wS l + wG (dR M g) = m) (hmN : m ≤ N) (hr : p + 41 * (m + 2) ≤ 60000) : HsE (lp (st_X11_canProve (r_X11_canProve (n + 1)) (n + 2)) (32, [.ref 89, .int (nI p), .int (nI (p + l.length)), .int (nI g), .int (nI (p + l.length))], M)) P c0 M c (p + l.length) l (dR M g) := by
  have hW := hS.1
  have hcc := hS.cle hP
  have hl := hS.len hP
  have hT := hS.2.1
  have hnd := hS.2.2.2.2.2.1
  have hle : (nI (p + l.length) ≤ nI (p + l.length)) = True := eq_true (by rw [nI_le_ (by omega) (by omega)]; omega)
  have start := ge_X11_canProve_32 (r_X11_canProve (n + 1)) (n + 2) 89 (nI p) (nI (p + l.length)) (nI g) (nI (p + l.length)) M
  have g90 := fA_R hW (a := 90) (by omega) (s_90 hW) (show g < 16384 by omega) (by omega)
  have g91 := fA_R hW (a := 91) (by omega) (s_91 hW) (show g < 16384 by omega) (by omega)
  have z0 : ((0 : Int32) = 0) = True := eq_true rfl
  have z1 : ((1 : Int32) = 0) = False := eq_false (by decide)
  rcases hT.cases hg with ⟨j, hj, e0, -, -, e4⟩ | ⟨j, x, y, j1, j2, hx, hy, e0, e1, e2, e4⟩
  · have K := hB M c p l g hS hg hag hI h8 (Or.inl ⟨j, e4, hng⟩) (by omega) (by rw [hm]; exact hr)
    refine HsE.eq (HsE.fin K) (start.trans ?_)
    unfold T_X11_canProve_32
    have q9 : (nI j = (9 : Int32)) = False := kne (k := 9) (by omega) (by omega) (by omega)
    have q10 : (nI j = (10 : Int32)) = False := kne (k := 10) (by omega) (by omega) (by omega)
    have q11 : (nI j = (11 : Int32)) = False := kne (k := 11) (by omega) (by omega) (by omega)
    simp (disch := omega) only [hle, ↓reduceIte, ↓gd_pos (fO_R hW), ↓bnd_of (r_89_1 hW), ↓gd_pos g90, nI_z, e0, q9, q10, q11]
  · have jj : j = 9 ∨ j = 10 ∨ j = 11 := by omega
    rcases jj with rfl | rfl | rfl
    · -- an imp
      have e4 : dR M g = .add (dR M x) (dR M y) := e4
      have ew : wG (.add (dR M x) (dR M y)) = 1 + wM (dR M x) + wG (dR M y) := rfl
      rw [e4] at hm hag
      obtain ⟨u1, u2⟩ := ag_imp hag
      obtain ⟨M1, f1, F1, H1⟩ := rx_copiesHad hW hS.2.2.2.2.1 (but := -1) (j := l.length) (fun i' h' => ⟨fun z => absurd z (of_eq_false (nI_ne_m1 (a := p + i') (by omega))), fun z => by omega⟩) (by omega) (n + 1)
      rw [List.eraseIdx_of_length_le (Nat.le_refl _)] at f1 H1
      have g1 : Gwr M c (p + l.length) M1 c := Gwr.row F1 hT
      have hS1 : HsS P c0 M1 c (p + l.length) l := HsS.next hS g1 (hS.2.2.2.1.row F1) H1 hnd (fun f hf => Or.inl hf)
      obtain ⟨M2, f2, F2, H2⟩ := rx_withHad hS1.1 hS1.2.1 hS1.2.2.2.2.1 (show x < c by omega) (by omega) n
      rw [show dR M1 x = dR M x by rw [d125 F1]] at f2 H2
      have g2 : Gwr M1 c (p + l.length + l.length) M2 c := Gwr.row F2 hS1.2.1
      have hS2 : HsS P c0 M2 c (p + l.length) (adl l (dR M x)) := HsS.next hS1 (g2.mono (by omega)) (hS1.2.2.2.1.row F2) H2 (adl_nd hnd) (fun f hf => (adl_mem.mp hf).imp id (fun e => by rw [e]; exact u1))
      have w1 := adl_wS (l := l) (x := dR M x)
      have ln := adl_len l (dR M x)
      have dy2 : dR M2 y = dR M y := by rw [d125 F2, d125 F1]
      have K := hK M2 c (p + l.length) _ y hS2 (by omega) (by rw [dy2]; exact u2) (by rw [dy2]; omega) (by rw [dy2]; omega)
      rw [dy2] at K
      rw [e4]
      refine HsE.eq (HsE.iff (HsE.pre (HsE.fin K) (g1.trans g2 (by omega)) (by omega)) (el_gimp (fun z => adl_mem))) (start.trans ?_)
      unfold T_X11_canProve_32
      have q9 : (nI 9 = (9 : Int32)) = True := eq_true rfl
      have e1' : M1.2.2.1 91 g = nI x := (F1.int (fun z => by have := z.1; omega)).trans e1
      have e2' : M2.2.2.1 92 g = nI y := (F2.int (fun z => by have := z.1; omega)).trans ((F1.int (fun z => by have := z.1; omega)).trans e2)
      simp (disch := omega) only [hle, ↓reduceIte, ↓gd_pos (fO_R hW), ↓bnd_of (r_89_1 hW), ↓gd_pos g90, nI_z, e0, q9, ↓bnd2_of (show cal (n + 2) (fun zz => f_X11_copiesHad zz 89 (nI p) (nI (p + l.length)) (-1) M) = _ from f1), ↓gd_pos (fO_R hS1.1), ↓bnd_of (r_89_2 hS1.1), ↓gd_pos (fA_R hS1.1 (a := 91) (by omega) (s_91 hS1.1) (show g < 16384 by omega) (by omega)), e1', ↓bnd2_of (show cal (n + 2) (fun zz => f_X11_withHad zz 89 (nI (p + l.length)) (nI (p + l.length + l.length)) (nI x) M1) = _ from f2), ↓gd_pos (fO_R hS2.1), ↓bnd_of (r_89_3 hS2.1), ↓gd_pos (fA_R hS2.1 (a := 92) (by omega) (s_92 hS2.1) (show g < 16384 by omega) (by omega)), e2']
    · -- an and
      have e4 : dR M g = .mul (dR M x) (dR M y) := e4
      have ew : wG (.mul (dR M x) (dR M y)) = 1 + max (wG (dR M x)) (wG (dR M y)) := rfl
      have mx1 := Nat.le_max_left (wG (dR M x)) (wG (dR M y))
      have mx2 := Nat.le_max_right (wG (dR M x)) (wG (dR M y))
      rw [e4] at hm hag
      obtain ⟨u1, u2⟩ := ag_and hag
      have q9 : (nI 10 = (9 : Int32)) = False := eq_false (by decide)
      have q10 : (nI 10 = (10 : Int32)) = True := eq_true rfl
      obtain ⟨w, M5, c5, k1, k2, k3, k4⟩ := hK M c p l x hS (by omega) u1 (by omega) (by omega)
      have hS5 : HsS P c0 M5 c5 p l := hS.gw k3 k4 (Nat.le_refl _)
      have cc5 := k3.2.2.1
      have c5le := hS5.cle hP
      rw [e4]
      rcases k2 with ⟨rfl, ky⟩ | ⟨rfl, kn⟩
      · have dy5 : dR M5 y = dR M y := k3.2.2.2 y (by omega)
        have dg5 : dR M5 g = mkF 10 (dR M x) (dR M y) := (k3.2.2.2 g hg).trans e4
        obtain ⟨x', y', hx', hy', -, -, e2', -, e4'⟩ := tab_node (j := 10) hS5.2.1 (show g < c5 by omega) (by omega) (by omega) dg5
        obtain ⟨w', M6, c6, k1', k2', k3', k4'⟩ := hK M5 c5 p l y' hS5 (by omega) (by rw [e4']; exact u2) (by rw [e4']; omega) (by rw [e4']; omega)
        rw [e4'] at k2'
        rcases k2' with ⟨rfl, ky'⟩ | ⟨rfl, kn'⟩
        · refine ⟨1, M6, c6, start.trans ?_, Or.inl ⟨rfl, ent_and.mpr ⟨ky, ky'⟩⟩, k3.trans k3' (Nat.le_refl _), k4'⟩
          unfold T_X11_canProve_32
          simp (disch := omega) only [hle, ↓reduceIte, ↓gd_pos (fO_R hW), ↓bnd_of (r_89_1 hW), ↓gd_pos g90, nI_z, e0, q9, q10, ↓bnd_of (r_89_2 hW), ↓gd_pos g91, e1, ↓bnd2_of k1, z1, ↓gd_pos (fO_R hS5.1), ↓bnd_of (r_89_3 hS5.1), ↓gd_pos (fA_R hS5.1 (a := 92) (by omega) (s_92 hS5.1) (show g < 16384 by omega) (by omega)), e2', ↓bnd2_of k1']
        · refine ⟨0, M6, c6, start.trans ?_, Or.inr ⟨rfl, fun z => kn' (ent_and.mp z).2⟩, k3.trans k3' (Nat.le_refl _), k4'⟩
          unfold T_X11_canProve_32
          simp (disch := omega) only [hle, ↓reduceIte, ↓gd_pos (fO_R hW), ↓bnd_of (r_89_1 hW), ↓gd_pos g90, nI_z, e0, q9, q10, ↓bnd_of (r_89_2 hW), ↓gd_pos g91, e1, ↓bnd2_of k1, z1, ↓gd_pos (fO_R hS5.1), ↓bnd_of (r_89_3 hS5.1), ↓gd_pos (fA_R hS5.1 (a := 92) (by omega) (s_92 hS5.1) (show g < 16384 by omega) (by omega)), e2', ↓bnd2_of k1']
      · refine ⟨0, M5, c5, start.trans ?_, Or.inr ⟨rfl, fun z => kn (ent_and.mp z).1⟩, k3, k4⟩
        unfold T_X11_canProve_32
        simp (disch := omega) only [hle, ↓reduceIte, ↓gd_pos (fO_R hW), ↓bnd_of (r_89_1 hW), ↓gd_pos g90, nI_z, e0, q9, q10, ↓bnd_of (r_89_2 hW), ↓gd_pos g91, e1, ↓bnd2_of k1]
    · -- an or
      have e4 : dR M g = .sub (dR M x) (dR M y) := e4
      have ew : wG (.sub (dR M x) (dR M y)) = 1 + max (wG (dR M x)) (wG (dR M y)) := rfl
      have mx1 := Nat.le_max_left (wG (dR M x)) (wG (dR M y))
      have mx2 := Nat.le_max_right (wG (dR M x)) (wG (dR M y))
      rw [e4] at hm hag
      obtain ⟨u1, u2⟩ := ag_or hag
      have q9 : (nI 11 = (9 : Int32)) = False := eq_false (by decide)
      have q10 : (nI 11 = (10 : Int32)) = False := eq_false (by decide)
      have q11 : (nI 11 = (11 : Int32)) = True := eq_true rfl
      obtain ⟨w, M5, c5, k1, k2, k3, k4⟩ := hK M c p l x hS (by omega) u1 (by omega) (by omega)
      have hS5 : HsS P c0 M5 c5 p l := hS.gw k3 k4 (Nat.le_refl _)
      have cc5 := k3.2.2.1
      have c5le := hS5.cle hP
      rw [e4]
      rcases k2 with ⟨rfl, ky⟩ | ⟨rfl, kn⟩
      · refine ⟨1, M5, c5, start.trans ?_, Or.inl ⟨rfl, ent_or (Or.inl ky)⟩, k3, k4⟩
        unfold T_X11_canProve_32
        simp (disch := omega) only [hle, ↓reduceIte, ↓gd_pos (fO_R hW), ↓bnd_of (r_89_1 hW), ↓gd_pos g90, nI_z, e0, q9, q10, q11, ↓bnd_of (r_89_2 hW), ↓gd_pos g91, e1, ↓bnd2_of k1, z1]
      · have dg5 : dR M5 g = mkF 11 (dR M x) (dR M y) := (k3.2.2.2 g hg).trans e4
        obtain ⟨x', y', hx', hy', -, -, e2', -, e4'⟩ := tab_node (j := 11) hS5.2.1 (show g < c5 by omega) (by omega) (by omega) dg5
        obtain ⟨w', M6, c6, k1', k2', k3', k4'⟩ := hK M5 c5 p l y' hS5 (by omega) (by rw [e4']; exact u2) (by rw [e4']; omega) (by rw [e4']; omega)
        rw [e4'] at k2'
        have hS6 : HsS P c0 M6 c6 p l := hS5.gw k3' k4' (Nat.le_refl _)
        have gg := k3.trans k3' (Nat.le_refl _)
        have cc6 := gg.2.2.1
        rcases k2' with ⟨rfl, ky'⟩ | ⟨rfl, kn'⟩
        · refine ⟨1, M6, c6, start.trans ?_, Or.inl ⟨rfl, ent_or (Or.inr ky')⟩, gg, k4'⟩
          unfold T_X11_canProve_32
          simp (disch := omega) only [hle, ↓reduceIte, ↓gd_pos (fO_R hW), ↓bnd_of (r_89_1 hW), ↓gd_pos g90, nI_z, e0, q9, q10, q11, ↓bnd_of (r_89_2 hW), ↓gd_pos g91, e1, ↓bnd2_of k1, ↓gd_pos (fO_R hS5.1), ↓bnd_of (r_89_3 hS5.1), ↓gd_pos (fA_R hS5.1 (a := 92) (by omega) (s_92 hS5.1) (show g < 16384 by omega) (by omega)), e2', ↓bnd2_of k1', z1]
        · have dg6 : dR M6 g = .sub (dR M x) (dR M y) := (gg.2.2.2 g hg).trans e4
          have K := hB M6 c6 p l g hS6 (by omega) (by rw [dg6]; exact hag) hI h8 (Or.inr ⟨_, _, dg6, kn, kn'⟩) (by rw [dg6]; omega) (by rw [dg6, hm]; exact hr)
          rw [dg6] at K
          refine HsE.eq (HsE.pre (HsE.fin K) gg (Nat.le_refl _)) (start.trans ?_)
          unfold T_X11_canProve_32
          simp (disch := omega) only [hle, ↓reduceIte, ↓gd_pos (fO_R hW), ↓bnd_of (r_89_1 hW), ↓gd_pos g90, nI_z, e0, q9, q10, q11, ↓bnd_of (r_89_2 hW), ↓gd_pos g91, e1, ↓bnd2_of k1, ↓gd_pos (fO_R hS5.1), ↓bnd_of (r_89_3 hS5.1), ↓gd_pos (fA_R hS5.1 (a := 92) (by omega) (s_92 hS5.1) (show g < 16384 by omega) (by omega)), e2', ↓bnd2_of k1', ↓gd_pos (fO_R hS6.1)]
end GO7
