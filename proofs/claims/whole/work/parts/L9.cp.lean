/-! THE REFERENCE's SEARCH: canProve, whole -/
section CP9
variable {P : List Fm} {c0 : Nat} {M M1 M2 : Mem} {c c1 c2 p q q1 : Nat} {l l1 : List Fm} {G G1 : Fm} {e e1 : Option (Int32 × Mem)} {n N a b g m j i : Nat} {X Y C A : Fm}
set_option maxHeartbeats 4000000 in
theorem cp_32 (hP : P.length ≤ 40) (hc0 : c0 + 41 < 16384) (hK : HsK P c0 (n + 1) N) (hB : HsB P c0 (n + 1) N) (hS : HsS P c0 M c p l) (hg : g < c) (hag : Sub (ag (dR M g)) P) (h8 : Jvm.Term.arg 8 ∉ l) (hng : dR M g ∉ l) (hm : wS l + wG (dR M g) = m) (hmN : m ≤ N) (hr : p + 41 * (m + 2) ≤ 60000) : ∀ z i, i + z = l.length → (∀ i' (h : i' < l.length), i' < i → Irr l l[i']) → HsE (lp (st_X11_canProve (r_X11_canProve (n + 1)) (n + 2)) (32, [.ref 89, .int (nI p), .int (nI (p + l.length)), .int (nI g), .int (nI (p + i))], M)) P c0 M c (p + l.length) l (dR M g) := by
  have hW := hS.1
  have hcc := hS.cle hP
  have hl := hS.len hP
  have hT := hS.2.1
  intro z
  induction z with
  | zero =>
    intro i hi hI
    rw [show i = l.length by omega]
    exact cp_goal hP hc0 hK hB hS hg hag h8 hng (fun f hf => by
      obtain ⟨i', hi', e⟩ := List.getElem_of_mem hf
      rw [← e]
      exact hI i' hi' (by omega)) hm hmN hr
  | succ z ih =>
    intro i hi hI
    have hil : i < l.length := by omega
    have hle : (nI (p + l.length) ≤ nI (p + i)) = False := eq_false (by rw [nI_le_ (by omega) (by omega)]; omega)
    obtain ⟨v, v1, v2, v3⟩ := hS.2.2.2.2.1 i hil
    have v90 := fA_R hW (a := 90) (by omega) (s_90 hW) (show v < 16384 by omega) (by omega)
    have v91 := fA_R hW (a := 91) (by omega) (s_91 hW) (show v < 16384 by omega) (by omega)
    have v92 := fA_R hW (a := 92) (by omega) (s_92 hW) (show v < 16384 by omega) (by omega)
    have start := ge_X11_canProve_32 (r_X11_canProve (n + 1)) (n + 2) 89 (nI p) (nI (p + l.length)) (nI g) (nI (p + i)) M
    have nx : Irr l l[i] → HsE (lp (st_X11_canProve (r_X11_canProve (n + 1)) (n + 2)) (32, [.ref 89, .int (nI p), .int (nI (p + l.length)), .int (nI g), .int (nI (p + (i + 1)))], M)) P c0 M c (p + l.length) l (dR M g) := fun q => ih (i + 1) (by omega) (fun i' h' hh => by
      by_cases e : i' = i
      · subst e; exact q
      · exact hI i' h' (by omega))
    rcases hT.cases v1 with ⟨j, hj, e0, -, -, e4⟩ | ⟨j, a, b, j1, j2, ha, hb, e0, e1, e2, e4⟩
    · refine HsE.eq (nx (Or.inl ⟨j, v3.symm.trans e4⟩)) (start.trans ?_)
      unfold T_X11_canProve_32
      have q9 : (nI j = (9 : Int32)) = False := kne (k := 9) (by omega) (by omega) (by omega)
      have q10 : (nI j = (10 : Int32)) = False := kne (k := 10) (by omega) (by omega) (by omega)
      have q11 : (nI j = (11 : Int32)) = False := kne (k := 11) (by omega) (by omega) (by omega)
      simp (disch := omega) only [hle, ↓reduceIte, ↓gd_pos (fO_R hW), ↓bnd_of (r_89_60 hW), ↓gd_pos (f125 hW (show p + i < 60000 by omega)), nI_z, v2, ↓bnd_of (r_89_2 hW), ↓bnd_of (r_89_3 hW), ↓bnd_of (r_89_1 hW), ↓gd_pos v90, ↓gd_pos v91, ↓gd_pos v92, e0, q9, q10, q11, nI_1]
      rfl
    · have jj : j = 9 ∨ j = 10 ∨ j = 11 := by omega
      rcases jj with rfl | rfl | rfl
      · -- an imp
        have e4 : dR M v = .add (dR M a) (dR M b) := e4
        have hf : l[i] = .add (dR M a) (dR M b) := v3.symm.trans e4
        have a90 := fA_R hW (a := 90) (by omega) (s_90 hW) (show a < 16384 by omega) (by omega)
        have q9 : (nI 9 = (9 : Int32)) = True := eq_true rfl
        have q10 : (nI 9 = (10 : Int32)) = False := eq_false (by decide)
        have q11 : (nI 9 = (11 : Int32)) = False := eq_false (by decide)
        have big : ∀ {j : Nat}, j < 20 → ((8 : Int32) ≤ nI j ↔ 8 ≤ j) := fun h => by rw [show (8 : Int32) = nI 8 from rfl, nI_le_ (by omega) (by omega)]
        rcases hT.cases (show a < c by omega) with ⟨k, hk, a0, -, -, a4⟩ | ⟨k, x, y, k1, k2, hx, hy, a0, -, -, a4⟩
        · by_cases k8 : k = 8
          · -- from no
            have K := cp_224 (n := n) hP hc0 hK hS hil hf (show a < c by omega) rfl (show b < c by omega) rfl (fun x y z => by rw [a4] at z; cases z) (fun k' z z8 => by rw [a4] at z; cases z; exact absurd k8 z8) hg hag hm hmN hr
            refine HsE.eq K (start.trans ?_)
            unfold T_X11_canProve_32
            have b8 : ((8 : Int32) ≤ nI k) = True := eq_true ((big (by omega)).mpr (by omega))
            simp (disch := omega) only [hle, ↓reduceIte, ↓gd_pos (fO_R hW), ↓bnd_of (r_89_60 hW), ↓gd_pos (f125 hW (show p + i < 60000 by omega)), nI_z, v2, ↓bnd_of (r_89_2 hW), ↓bnd_of (r_89_3 hW), ↓bnd_of (r_89_1 hW), ↓gd_pos v90, ↓gd_pos v91, ↓gd_pos v92, e0, q9, q10, q11, e1, e2, ↓gd_pos a90, a0, b8]
          · have b8 : ((8 : Int32) ≤ nI k) = False := eq_false (fun z => by have := (big (by omega)).mp z; omega)
            have y := rx_isHad hW hT hS.2.2.2.2.1 (show a < c by omega) (by omega) (n + 1)
            rcases Classical.em (dR M a ∈ l) with hin | hin
            · rw [itc_pos hin] at y
              have K := cp_224 (n := n) hP hc0 hK hS hil hf (show a < c by omega) rfl (show b < c by omega) rfl (fun x y z => by rw [a4] at z; cases z) (fun k' z z8 => hin) hg hag hm hmN hr
              refine HsE.eq K (start.trans ?_)
              unfold T_X11_canProve_32
              simp (disch := omega) only [hle, ↓reduceIte, ↓gd_pos (fO_R hW), ↓bnd_of (r_89_60 hW), ↓gd_pos (f125 hW (show p + i < 60000 by omega)), nI_z, v2, ↓bnd_of (r_89_2 hW), ↓bnd_of (r_89_3 hW), ↓bnd_of (r_89_1 hW), ↓gd_pos v90, ↓gd_pos v91, ↓gd_pos v92, e0, q9, q10, q11, e1, e2, ↓gd_pos a90, a0, b8, ↓bnd2_of (show cal (n + 2) (fun zz => f_X11_isHad zz 89 (nI p) (nI (p + l.length)) (nI a) M) = _ from y), show ((1 : Int32) = 0) = False from eq_false (by decide)]
            · rw [itc_neg hin] at y
              refine HsE.eq (nx (Or.inr (Or.inl ⟨k, dR M b, by rw [hf, a4], k8, by rw [← a4]; exact hin⟩))) (start.trans ?_)
              unfold T_X11_canProve_32
              simp (disch := omega) only [hle, ↓reduceIte, ↓gd_pos (fO_R hW), ↓bnd_of (r_89_60 hW), ↓gd_pos (f125 hW (show p + i < 60000 by omega)), nI_z, v2, ↓bnd_of (r_89_2 hW), ↓bnd_of (r_89_3 hW), ↓bnd_of (r_89_1 hW), ↓gd_pos v90, ↓gd_pos v91, ↓gd_pos v92, e0, q9, q10, q11, e1, e2, ↓gd_pos a90, a0, b8, ↓bnd2_of (show cal (n + 2) (fun zz => f_X11_isHad zz 89 (nI p) (nI (p + l.length)) (nI a) M) = _ from y), nI_1]
              rfl
        · have b8 : ((8 : Int32) ≤ nI k) = True := eq_true ((big (by omega)).mpr (by omega))
          have s224 : lp (st_X11_canProve (r_X11_canProve (n + 1)) (n + 2)) (32, [.ref 89, .int (nI p), .int (nI (p + l.length)), .int (nI g), .int (nI (p + i))], M) = lp (st_X11_canProve (r_X11_canProve (n + 1)) (n + 2)) (224, [.ref 89, .int (nI p), .int (nI (p + l.length)), .int (nI g), .int (nI (p + i)), .int (nI a), .int (nI b)], M) := by
            refine start.trans ?_
            unfold T_X11_canProve_32
            simp (disch := omega) only [hle, ↓reduceIte, ↓gd_pos (fO_R hW), ↓bnd_of (r_89_60 hW), ↓gd_pos (f125 hW (show p + i < 60000 by omega)), nI_z, v2, ↓bnd_of (r_89_2 hW), ↓bnd_of (r_89_3 hW), ↓bnd_of (r_89_1 hW), ↓gd_pos v90, ↓gd_pos v91, ↓gd_pos v92, e0, q9, q10, q11, e1, e2, ↓gd_pos a90, a0, b8]
          by_cases k9 : k = 9
          · subst k9
            refine HsE.eq (nx (Or.inr (Or.inr ⟨dR M x, dR M y, dR M b, by rw [hf, a4]; rfl⟩))) (s224.trans ?_)
            exact cp_224s (n := n) hP hc0 hS hil (by omega) (show a < c by omega) a0
          · exact HsE.eq (cp_224 (n := n) hP hc0 hK hS hil hf (show a < c by omega) rfl (show b < c by omega) rfl (fun x' y' z => by
              rw [a4] at z
              exact k9 (mkF_inj (j := k) (j' := 9) k1 k2 (by omega) (by omega) z).1) (fun k' z _ => by
              rw [a4] at z
              exact (mkF_ne z).elim) hg hag hm hmN hr) s224
      · exact cp_mul hP hc0 hK hS hg hag hm hmN hr hil (v3.symm.trans e4)
      · exact cp_sub hP hc0 hK hS hg hag hm hmN hr hil (v3.symm.trans e4)
set_option maxHeartbeats 1000000 in
theorem cp_0 (hP : P.length ≤ 40) (hc0 : c0 + 41 < 16384) (hK : HsK P c0 (n + 1) N) (hB : HsB P c0 (n + 1) N) : HsK P c0 (n + 2) (N + 1) := by
  intro M c p l g hS hg hag hm hr
  have hW := hS.1
  have hl := hS.len hP
  have start : r_X11_canProve (n + 2) 0 [.ref 89, .int (nI p), .int (nI (p + l.length)), .int (nI g)] M = _ := ge_X11_canProve_0 (r_X11_canProve (n + 1)) (n + 2) 89 (nI p) (nI (p + l.length)) (nI g) M
  have y := rx_isHad hW hS.2.1 hS.2.2.2.2.1 hg (by omega) (n + 1)
  have z1 : ((1 : Int32) = 0) = False := eq_false (by decide)
  rcases Classical.em (dR M g ∈ l) with hin | hin
  · rw [itc_pos hin] at y
    refine HsE.eq (HsE.yes hS (ent_mem hin)) (start.trans ?_)
    unfold T_X11_canProve_0
    simp only [↓gd_pos (fO_R hW), ↓bnd2_of (show cal (n + 2) (fun zz => f_X11_isHad zz 89 (nI p) (nI (p + l.length)) (nI g) M) = _ from y), z1, ↓reduceIte]
  · rw [itc_neg hin] at y
    obtain ⟨i8, c1, M1, f1, i8c, d1, g1, n1, s1⟩ := cp_make hS hP hc0 (x := 8) (y := -1) (z := -1) (f := .arg 8) (Or.inl ⟨8, by omega, rfl, rfl, rfl, rfl⟩) List.mem_cons_self (p + l.length) (n + 1)
    have hS1 : HsS P c0 M1 c1 p l := hS.gw g1 n1 (Nat.le_refl _)
    have y1 := rx_isHad hS1.1 hS1.2.1 hS1.2.2.2.2.1 i8c (by omega) (n + 1)
    rw [d1] at y1
    have dg := g1.2.2.2 g hg
    have cc1 := g1.2.2.1
    rcases Classical.em (Jvm.Term.arg 8 ∈ l) with h8 | h8
    · rw [itc_pos h8] at y1
      refine HsE.eq (HsE.pre (HsE.yes hS1 (ent_no (ent_mem h8))) g1 (Nat.le_refl _)) (start.trans ?_)
      unfold T_X11_canProve_0
      simp only [↓gd_pos (fO_R hW), ↓bnd2_of (show cal (n + 2) (fun zz => f_X11_isHad zz 89 (nI p) (nI (p + l.length)) (nI g) M) = _ from y), ↓reduceIte, ↓bnd2_of (show cal (n + 2) (fun zz => f_X11_formula zz 89 8 (-1) (-1) M) = _ from f1), ↓gd_pos (fO_R hS1.1), ↓bnd2_of (show cal (n + 2) (fun zz => f_X11_isHad zz 89 (nI p) (nI (p + l.length)) (nI i8) M1) = _ from y1), z1]
    · rw [itc_neg h8] at y1
      have K := cp_32 (n := n) hP hc0 hK hB hS1 (show g < c1 by omega) (by rw [dg]; exact hag) h8 (by rw [dg]; exact hin) rfl (by rw [dg]; omega) (by rw [dg]; exact hr) l.length 0 (by omega) (fun i' h' hh => by omega)
      rw [dg] at K
      refine HsE.eq (HsE.pre K g1 (Nat.le_refl _)) (start.trans ?_)
      unfold T_X11_canProve_0
      simp only [↓gd_pos (fO_R hW), ↓bnd2_of (show cal (n + 2) (fun zz => f_X11_isHad zz 89 (nI p) (nI (p + l.length)) (nI g) M) = _ from y), ↓reduceIte, ↓bnd2_of (show cal (n + 2) (fun zz => f_X11_formula zz 89 8 (-1) (-1) M) = _ from f1), ↓gd_pos (fO_R hS1.1), ↓bnd2_of (show cal (n + 2) (fun zz => f_X11_isHad zz 89 (nI p) (nI (p + l.length)) (nI i8) M1) = _ from y1)]
      rfl
theorem HsB.le (h : HsB P c0 n N) {N1 : Nat} (hN : N1 ≤ N) : HsB P c0 n N1 := fun M c p l g a1 a2 a3 a4 a5 a6 a7 a8 => h M c p l g a1 a2 a3 a4 a5 a6 (by omega) a8
theorem cp_all (hP : P.length ≤ 40) (hc0 : c0 + 41 < 16384) : ∀ N n, N + 5 ≤ n → HsK P c0 n N := by
  intro N
  induction N using Nat.strongRecOn with
  | ind N ih =>
    intro n hn
    cases N with
    | zero => intro M c p l g _ _ _ hm; exact absurd hm (Nat.not_lt_zero _)
    | succ N =>
      obtain ⟨k, rfl⟩ : ∃ k, n = k + 3 := ⟨n - 3, by omega⟩
      have K1 : HsK P c0 (k + 2) N := ih N (by omega) (k + 2) (by omega)
      have K2 : HsK P c0 (k + 1) (N - 1) := by
        cases N with
        | zero => intro M c p l g _ _ _ hm; exact absurd hm (Nat.not_lt_zero _)
        | succ N => exact ih N (by omega) (k + 1) (by omega)
      exact cp_0 (n := k + 1) hP hc0 K1 ((by_all (n := k) hP hc0 K2).le (by omega))
end CP9
