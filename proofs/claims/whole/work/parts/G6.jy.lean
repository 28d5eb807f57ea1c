/-! THE INVARIANT over calls: hypothesis -/
section JY6
variable {M M1 M2 : Mem} {c cR cr : Nat} {b : Nat → Nat} {L : Nat} {H : List (Nat × Fm)} {gf : Fm} {T : Nat → Option Tm} {ks : List Nat} {K k : Nat}
set_option maxHeartbeats 1000000 in
theorem j_hypothesis (h : Jn k M) (x1 x2 x3 : Int32) : Pr2 (Jn (k + 1)) (f_X10_hypothesis 2047 0 x1 x2 x3) (f_X11_hypothesis 2047 89 x1 x2 x3) M := by
  obtain ⟨c, cR, b, L, H, gf, T, ks, hC, hR, hP, hE, hb, hm⟩ := h
  have hW := hC.1.1
  have hH := hC.1.2.2.2.1
  have hHr := hR.1.2.2.1
  have h6 := hH.2.1
  have ec : f_X10_hypothesis (2046 + 1) 0 x1 x2 x3 M = T_X10_hypothesis_0 (fun v M => some (v, M)) none (2046 + 1) 0 x1 x2 x3 M := rfl
  have er : f_X11_hypothesis (2046 + 1) 89 x1 x2 x3 M = T_X11_hypothesis_0 (fun v M => some (v, M)) none (2046 + 1) 89 x1 x2 x3 M := rfl
  obtain ⟨n, hn⟩ : ∃ n, n = 2046 := ⟨_, rfl⟩
  rw [← hn] at ec er
  have hO2 : fO M 2 1 := ⟨by rw [hW.1]; omega, s_2 hW⟩
  have hO10 : fO M 10 2 := ⟨by rw [hW.1]; omega, s_10 hW⟩
  have hO := fO_0 hW
  have hOR := fO_R hW
  have une : ((1 : Int32) = 0) = False := eq_false (by decide)
  have h3 := hH.1
  obtain ⟨i1, i2⟩ := rx_isHyp (M := wI M 89 0 0) n (n := H.length) h6 x1
  obtain ⟨t1, t2⟩ := rx_isTo (M := wI M 89 0 0) n (n := 1) (by omega) (hi := 1) (by decide) x2
  have g15 : (wI M 89 0 0).2.2.1 89 15 = nI H.length := by simp [up2_if]; exact hHr.1
  -- no such
  have no : ∀ {v : Int32}, f_X10_hypothesis (n + 1) 0 x1 x2 x3 M = some (v, M) → f_X11_hypothesis (n + 1) 89 x1 x2 x3 M = some (v, wI M 89 0 0) → Pr2 (Jn (k + 1)) (f_X10_hypothesis 2047 0 x1 x2 x3) (f_X11_hypothesis 2047 89 x1 x2 x3) M := by
    intro v e1 e2
    rw [hn] at e1 e2
    exact jn_ans hb hm hC hR hP hE e1 e2
  by_cases hj : ∃ j, j < H.length ∧ x1 = nI j
  · obtain ⟨j, hj, hx1⟩ := hj
    have z1 := i1 j hj hx1
    subst hx1
    have hn0 : (nI j < (0 : Int32)) = False := nI_lt0 (by omega)
    have hle : (nI H.length ≤ nI j) = False := eq_false (by rw [nI_le_ (by omega) (by omega)]; omega)
    rcases what_in x2 1 with ⟨w, hw, hx2⟩ | hx2
    · have z2 := t1 w hw hx2
      subst hx2
      have hw0 : (nI w < (0 : Int32)) = False := nI_lt0 (by omega)
      have hw1 : (nI w ≤ (1 : Int32)) = True := eq_true (by rw [show (1 : Int32) = nI 1 from rfl, nI_le_ (by omega) (by omega)]; exact hw)
      by_cases hx3 : 0 ≤ x3
      · obtain ⟨q, hq, hxq⟩ := ge_nI hx3
        have hge : ((0 : Int32) ≤ x3) = True := eq_true hx3
        have F0 : Fr SB0 M (wI M 89 0 0) := Fr.refl.wI (Or.inl ⟨rfl, rfl⟩) _
        have hW0 := F0.Wd hW
        obtain ⟨M1, y2, F1, S1⟩ := TlS.beg hW0 n (q := q) (Or.inl hq)
        have F01 := F0.trans (F1.mono (fun a k q => Or.inr q))
        have hS : ∀ a k, SB0 a k → a = 89 ∧ (k = 0 ∨ k = 48 ∨ k = 49 ∨ k = 50) := fun a k q => by unfold SB0 SBg at q; omega
        have hW1 := F01.Wd hW
        obtain ⟨T1, d1⟩ := tabR_mv hR.1.2.1 F01 (fun q => by have := hS _ _ q; omega) (fun a k q => by have := hS _ _ q; omega)
        have hH1 : HyR M1 15 96 97 98 cR H := hHr.fr (F01.int (fun q => by have := hS _ _ q; omega)) (F01.ints (fun k q => by have := hS _ _ q; omega)) (F01.ints (fun k q => by have := hS _ _ q; omega)) (F01.ints (fun k q => by have := hS _ _ q; omega)) (Nat.le_refl _) (fun i _ => d1 i)
        by_cases hwz : w = 0
        · -- the name
          have hwe : (nI w = (0 : Int32)) = True := eq_true (by rw [hwz]; rfl)
          obtain ⟨f, cc, n1, n2⟩ := hHr.isN j hj
          have y3 := c_nameOf10 hW n hH hj
          have y4 := c_nameLetter (M := M) n n1 hq
          rw [← n2] at y4
          have e0 : spB [] ++ nsp H[j].1 = nsp H[j].1 := rfl
          have hl4 := nmH_len H j
          rw [nmH_at hj] at hl4
          obtain ⟨M2, y5, F2, S2⟩ := S1.hyp hW1 (n - 1) hH1 hj (by rw [e0]; have := tcn_le (nsp H[j].1); omega)
          rw [show n - 1 + 1 = n by omega] at y5
          rw [e0, n2, nsp_is n1] at S2
          have ea := S2.ans hq
          have hW2 := F2.Wd hW1
          obtain ⟨u, hu⟩ : ∃ u, u = nI H[j].1 := ⟨_, rfl⟩
          rw [← hu] at y3 y4
          refine jn_tell (v := gtN (nsl f cc) q) hb hm hC hR hP hE ?_ ?_ (F01.trans (F2.mono (fun a k q => Or.inr (STq_SBg a k q))))
          · have e : f_X10_hypothesis (n + 1) 0 (nI j) (nI w) x3 M = some (gtN (nsl f cc) q, M) := by
              rw [ec]
              unfold T_X10_hypothesis_0
              rw [hxq] at hge ⊢
              simp (disch := omega) only [hn0, ↓reduceIte, ↓gd_pos hO, ↓bnd_of (r_0_3 hW), ↓gd_pos hO10, h3, hle, hw0, hw1, hge, hwe, ↓bnd2_of (show cal (n + 1) (fun zz => f_X2_nameOf zz 10 (nI j) M) = _ from y3), ↓bnd2_of (show cal (n + 1) (fun zz => f_X10_nameLetter zz u (nI q) M) = _ from y4)]
            rw [hn] at e
            exact e
          · have e : f_X11_hypothesis (n + 1) 89 (nI j) (nI w) x3 M = some (gtN (nsl f cc) q, M2) := by
              rw [er]
              unfold T_X11_hypothesis_0
              rw [g15]
              rw [hxq] at hge ⊢
              simp (disch := omega) only [↓gd_pos hOR, ↓bnd2_of (show cal (n + 1) (fun zz => f_X11_isIn zz (Int32.toInt64 (nI j)) 0 (Int32.toInt64 (nI H.length - 1)) (wI M 89 0 0)) = _ from z1), une, ↓reduceIte, ↓bnd2_of (show cal (n + 1) (fun zz => f_X11_isIn zz (Int32.toInt64 (nI w)) 0 1 (wI M 89 0 0)) = _ from z2), hge, ↓gd_pos (fO_R hW0), ↓bnd2_of (show cal (n + 1) (fun zz => f_X11_begins0 zz 89 (nI q) (wI M 89 0 0)) = _ from y2), hwe, ↓gd_pos (fO_R hW1), ↓bnd2_of (show cal (n + 1) (fun zz => f_X11_tellsHypothesis zz 89 (nI j) M1) = _ from y5), ↓gd_pos (fO_R hW2), ea]
            rw [hn] at e
            exact e
        · -- the formula
          have hwe : (nI w = (0 : Int32)) = False := eq_false (fun z => by have := (nI_eq (b := 0) (by omega) (by omega)).mp z; omega)
          obtain ⟨v, v1, -, v3, v4, -⟩ := hH.2.2 j hj
          obtain ⟨p1, p2, -⟩ := hP.1 _ (List.getElem_mem hj)
          have h210 := Inn.m210 hC.1.2.2.1 p1.1 p2
          have hfl := Inn.fl hC.1.2.2.1 p1.1
          have y3 := c_formulaOf10 hW n hH hj
          rw [show M.2.2.1 12 j = nI v from v3] at y3
          have y4 := c_byteAt hW hC.1.2.2.1 (n - 6) (r := q) v1 (by rw [v4]; omega) (by omega)
          rw [show n - 6 + 6 = n by omega, v4] at y4
          obtain ⟨-, u, u1, u2, u3⟩ := hH1.2.2 j hj
          have e0 : spB [] ++ fsp H[j].2 = fsp H[j].2 := rfl
          obtain ⟨M2, y5, F2, S2⟩ := TlS.frm (q := q) 200 (n - 207) u cR M1 [] hW1 T1 u1 (by rw [u3]; exact p1.2) S1 (by rw [u3, e0]; have := tcn_le (fsp H[j].2); omega)
          rw [show 200 + 7 + (n - 207) = n by omega] at y5
          rw [u3, e0] at S2
          have ea := S2.ans hq
          have hW2 := F2.Wd hW1
          have hA98 : fA M1 98 1 (nI j) := ⟨by rw [hW1.1]; omega, 6, s_98 hW1, vp_nI (by omega) (by omega)⟩
          obtain ⟨gg, hgg⟩ : ∃ gg, gg = gtN (fsp H[j].2) q := ⟨_, rfl⟩
          rw [← hgg] at y4 ea
          refine jn_tell (v := gg) hb hm hC hR hP hE ?_ ?_ (F01.trans (F2.mono (fun a k q => Or.inr (STq_SBg a k q))))
          · have e : f_X10_hypothesis (n + 1) 0 (nI j) (nI w) x3 M = some (gg, M) := by
              rw [ec]
              unfold T_X10_hypothesis_0
              rw [hxq] at hge ⊢
              simp (disch := omega) only [hn0, ↓reduceIte, ↓gd_pos hO, ↓bnd_of (r_0_3 hW), ↓gd_pos hO10, h3, hle, hw0, hw1, hge, hwe, ↓bnd_of (r_0_2 hW), ↓bnd2_of (show cal (n + 1) (fun zz => f_X2_formulaOf zz 10 (nI j) M) = _ from y3), ↓gd_pos hO2, nI_long, ↓bnd2_of (show cal (n + 1) (fun zz => f_X1_byteAt zz 2 (nI v) (lN q) M) = _ from y4)]
            rw [hn] at e
            exact e
          · have e : f_X11_hypothesis (n + 1) 89 (nI j) (nI w) x3 M = some (gg, M2) := by
              rw [er]
              unfold T_X11_hypothesis_0
              rw [g15]
              rw [hxq] at hge ⊢
              simp (disch := omega) only [↓gd_pos hOR, ↓bnd2_of (show cal (n + 1) (fun zz => f_X11_isIn zz (Int32.toInt64 (nI j)) 0 (Int32.toInt64 (nI H.length - 1)) (wI M 89 0 0)) = _ from z1), une, ↓reduceIte, ↓bnd2_of (show cal (n + 1) (fun zz => f_X11_isIn zz (Int32.toInt64 (nI w)) 0 1 (wI M 89 0 0)) = _ from z2), hge, ↓gd_pos (fO_R hW0), ↓bnd2_of (show cal (n + 1) (fun zz => f_X11_begins0 zz 89 (nI q) (wI M 89 0 0)) = _ from y2), hwe, ↓gd_pos (fO_R hW1), ↓bnd_of (r_89_11 hW1), ↓gd_pos hA98, nI_z, u2, ↓bnd2_of (show cal (n + 1) (fun zz => f_X11_tellsFormula zz 89 (nI u) M1) = _ from y5), ↓gd_pos (fO_R hW2), ea]
            rw [hn] at e
            exact e
      · refine no (v := -3) ?_ ?_
        · rw [ec]
          unfold T_X10_hypothesis_0
          simp (disch := omega) only [hn0, ↓reduceIte, ↓gd_pos hO, ↓bnd_of (r_0_3 hW), ↓gd_pos hO10, h3, hle, hw0, hw1, hx3]
        · rw [er]
          unfold T_X11_hypothesis_0
          rw [g15]
          simp (disch := omega) only [↓gd_pos hOR, ↓bnd2_of (show cal (n + 1) (fun zz => f_X11_isIn zz (Int32.toInt64 (nI j)) 0 (Int32.toInt64 (nI H.length - 1)) (wI M 89 0 0)) = _ from z1), une, ↓reduceIte, ↓bnd2_of (show cal (n + 1) (fun zz => f_X11_isIn zz (Int32.toInt64 (nI w)) 0 1 (wI M 89 0 0)) = _ from z2), hx3]
    · have z2 := t2 hx2
      refine no (v := -2) ?_ ?_
      · rw [ec]
        unfold T_X10_hypothesis_0
        rcases what_no (by omega) hx2 with g | ⟨g1, g2⟩
        · simp (disch := omega) only [hn0, ↓reduceIte, ↓gd_pos hO, ↓bnd_of (r_0_3 hW), ↓gd_pos hO10, h3, hle, g]
        · have g2 : ¬ x2 ≤ 1 := g2
          simp (disch := omega) only [hn0, ↓reduceIte, ↓gd_pos hO, ↓bnd_of (r_0_3 hW), ↓gd_pos hO10, h3, hle, g1, g2]
      · rw [er]
        unfold T_X11_hypothesis_0
        rw [g15]
        simp (disch := omega) only [↓gd_pos hOR, ↓bnd2_of (show cal (n + 1) (fun zz => f_X11_isIn zz (Int32.toInt64 (nI j)) 0 (Int32.toInt64 (nI H.length - 1)) (wI M 89 0 0)) = _ from z1), une, ↓reduceIte, ↓bnd2_of (show cal (n + 1) (fun zz => f_X11_isIn zz (Int32.toInt64 x2) 0 1 (wI M 89 0 0)) = _ from z2)]
  · have hj : ∀ j, j < H.length → x1 ≠ nI j := fun j h1 h2 => hj ⟨j, h1, h2⟩
    have z1 := i2 hj
    refine no (v := -2) ?_ ?_
    · rw [ec]
      unfold T_X10_hypothesis_0
      by_cases hneg : x1 < 0
      · simp only [hneg, ↓reduceIte]
      · obtain ⟨i, hi, hxi⟩ := nI_of hneg
        have hle : (nI H.length ≤ x1) = True := eq_true (by rw [hxi, nI_le_ (by omega) (by omega)]; exact Nat.le_of_not_lt (fun g => hj i g hxi))
        simp only [hneg, ↓reduceIte, ↓gd_pos hO, ↓bnd_of (r_0_3 hW), ↓gd_pos hO10, h3, hle]
    · rw [er]
      unfold T_X11_hypothesis_0
      rw [g15]
      simp (disch := omega) only [↓gd_pos hOR, ↓bnd2_of (show cal (n + 1) (fun zz => f_X11_isIn zz (Int32.toInt64 x1) 0 (Int32.toInt64 (nI H.length - 1)) (wI M 89 0 0)) = _ from z1), ↓reduceIte]
end JY6
