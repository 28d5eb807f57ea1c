/-! AGAINST in the class -/
def S79 (a _k : Nat) : Prop := a = 79
theorem sh_j : ∀ j, j < 64 → ((nI j).toInt64.toUInt64 &&& Int64.toUInt64 63).toNat = j := by decide +kernel
theorem hj_64 : ∀ h, h < 4 → ∀ j, j < 64 → nI h * 64 + nI j = nI (h * 64 + j) := by decide +kernel
section LA0
variable {M M0 M1 : Mem} {c n hi : Nat} {S : Nat → Prop} {H : List (Nat × Fm)} {gf : Fm}
theorem TabC.s79 (hT : TabC M c) (F1 : Fr S79 M M1) : TabC M1 c ∧ ∀ i, dC M1 i = dC M i := hT.fr F1 (by unfold S79; omega) (by unfold S79; omega) (by unfold S79; omega) (by unfold S79; omega) (by unfold S79; omega) (by unfold S79; omega) (by unfold S79; omega)
theorem dC_79 (F1 : Fr S79 M M1) : dC M1 = dC M := dC_fq F1.q (by unfold S79; omega) (by unfold S79; omega) (by unfold S79; omega)
theorem PrS.s79 {v : Nat} (h : PrS M S v) (F1 : Fr S79 M M1) : PrS M1 S v := by
  have e : ∀ a k, a ≠ 79 → M1.2.2.1 a k = M.2.2.1 a k := fun a k h => F1.int (by unfold S79; exact h)
  refine ⟨by rw [e _ _ (by omega)]; exact h.1, fun u hu hS => ?_⟩
  rw [e _ _ (by omega), e _ _ (by omega), e _ _ (by omega), e _ _ (by omega), e _ _ (by omega), e _ _ (by omega), e _ _ (by omega)]
  exact h.2 u hu hS
theorem ClP.s79 (h : ClP M c S) (F1 : Fr S79 M M1) : ClP M1 c S := by
  unfold ClP
  rw [dC_79 F1]
  exact h
set_option maxHeartbeats 1000000 in
theorem ft_loop (hW0 : Wd M0) (hT0 : TabC M0 c) (hS : ClP M0 c S) (hP : PrS M0 S 5200) (h4 : cP S 5200 ≤ 420) (hh : hi < 4) : ∀ z i, i + z = cP S 5200 → ∀ (M : Mem), Fr S79 M0 M → TrT M (dC M0) S hi i → ∃ M1, lp (st_X5_fillTruths (n + 2)) (2, [.ref 74, .int (nI hi), .int (nI i)], M) = some ((), M1) ∧ Fr S79 M0 M1 ∧ TrT M1 (dC M0) S hi (cP S 5200) := by
  obtain ⟨m, hmn⟩ : ∃ m, m = n + 1 := ⟨_, rfl⟩
  rw [show n + 2 = m + 1 by omega]
  intro z
  induction z with
  | zero =>
    intro i hi' M F hTr
    have hW := F.Wd hW0
    have hP1 := hP.s79 F
    have e : i = cP S 5200 := by omega
    subst e
    refine ⟨M, ?_, F, hTr⟩
    refine (ge_X5_fillTruths_2 (m + 1) 74 (nI hi) (nI (cP S 5200)) M).trans ?_
    unfold T_X5_fillTruths_2
    have hle : (nI (cP S 5200) ≤ nI (cP S 5200)) = True := eq_true (by rw [nI_le_ (by omega) (by omega)]; omega)
    simp only [↓gd_pos (fO74 hW), hP1.1, hle, ↓reduceIte]
  | succ z ih =>
    intro i hi' M F hTr
    have hW := F.Wd hW0
    have hT := (hT0.s79 F).1
    have hP1 := hP.s79 F
    have hS1 := hS.s79 F
    obtain ⟨u, hu5, hu, hui⟩ := cP_inv (S := S) 5200 i (by omega)
    have hd := dC_79 F
    obtain ⟨w, k1, b1⟩ := c_truthOf hW hT hS1 hP1 h4 hh hu (by rw [hui, hd]; exact hTr) n
    rw [hui, ← hmn] at k1
    rw [hd] at b1
    have f79 : fA M 79 2 (nI i) := ⟨by rw [hW.1]; omega, 420, s_79 hW, vp_nI (by omega) (by omega)⟩
    have hle : (nI (cP S 5200) ≤ nI i) = False := eq_false (by rw [nI_le_ (by omega) (by omega)]; omega)
    have h42 : ((420 : Int32) ≤ nI i) = False := eq_false (by rw [show (420 : Int32) = nI 420 from rfl, nI_le_ (by omega) (by omega)]; omega)
    have F1 : Fr S79 M (wJ M 79 i w) := Fr.refl.wJ (show S79 79 i from rfl) _
    obtain ⟨M1, y, F2, T2⟩ := ih (i + 1) (by omega) (wJ M 79 i w) (F.trans F1) (fun v hv hlt j hj => by
      by_cases e : cP S v = i
      · have : v = u := cP_inj hv hu (by omega)
        subst this
        rw [e, show (wJ M 79 i w).2.2.2.1 79 i = w by simp [up2_if]]
        exact b1 j hj
      · rw [show (wJ M 79 i w).2.2.2.1 79 (cP S v) = M.2.2.2.1 79 (cP S v) by simp [up2_if, e]]
        exact hTr v hv (by omega) j hj)
    refine ⟨M1, ?_, F2, T2⟩
    refine (ge_X5_fillTruths_2 (m + 1) 74 (nI hi) (nI i) M).trans ?_
    unfold T_X5_fillTruths_2
    simp (disch := omega) only [↓gd_pos (fO74 hW), hP1.1, hle, h42, ↓reduceIte, ↓bnd_of (r_74_5 hW), ↓bnd2_of (show cal (m + 1) (fun zz => f_X5_truthOf zz 74 (nI i) (nI hi) M) = _ from k1), ↓gd_pos f79, nI_z, nI_1]
    exact y
theorem c_truth (hW : Wd M) (hP : PrS M S 5200) (h4 : cP S 5200 ≤ 420) {D : Nat → Fm} (hTr : TrT M D S hi (cP S 5200)) {u : Nat} (hu : S u) (hu5 : u < 5200) (m : Nat) : ∃ r w, f_X5_spotOf (m + 1) 74 (nI u) M = some (nI r, M) ∧ f_X5_truthAt (m + 1) 74 (nI r) M = some (w, M) ∧ ∀ j, j < 64 → b64 w j = tv (hi * 64 + j) (D u) := by
  have hr := cP_lt hu hu5
  exact ⟨cP S u, _, c_spotOf hW (Or.inr ⟨u, hu5, rfl, (hP.2 u hu5 hu).1⟩), (c_partAt hW hP.1 h4 hr).2.2.2, hTr u hu hr⟩
theorem la_67 (Q : Mem → Prop) {bad : Int64} {g : Int32} (hh : hi < 4) (hb : ∀ j, j < 64 → b64 bad j = bdS H gf (hi * 64 + j)) (hQ : Q M) (hN : ∃ M1, lp (st_X5_leastAgainst n) (2, [.ref 74, .ref 10, .int g, .int (nI (hi + 1))], M) = some (agF H gf (256 - (hi + 1) * 64) ((hi + 1) * 64), M1) ∧ Q M1) : ∀ z j, j + z = 64 → ∃ M1, lp (st_X5_leastAgainst n) (67, [.ref 74, .ref 10, .int g, .int (nI hi), .long bad, .int (nI j)], M) = some (agF H gf (256 - hi * 64 - j) (hi * 64 + j), M1) ∧ Q M1 := by
  intro z
  induction z with
  | zero =>
    intro j hj
    have e : j = 64 := by omega
    subst e
    obtain ⟨M1, y, q⟩ := hN
    refine ⟨M1, ?_, q⟩
    refine (ge_X5_leastAgainst_67 n 74 10 g (nI hi) bad (nI 64) M).trans ?_
    unfold T_X5_leastAgainst_67
    have h64 : ((64 : Int32) ≤ nI 64) = True := eq_true (by decide)
    simp only [h64, ↓reduceIte, nI_1]
    rw [show 256 - hi * 64 - 64 = 256 - (hi + 1) * 64 by omega, show hi * 64 + 64 = (hi + 1) * 64 by omega]
    exact y
  | succ z ih =>
    intro j hj
    have h64 : ((64 : Int32) ≤ nI j) = False := eq_false (by rw [show (64 : Int32) = nI 64 from rfl, nI_le_ (by omega) (by omega)]; omega)
    have tb : (lg_cmp ((lushr bad (nI j)) &&& 1) 0 = 0) ↔ b64 bad j = false := (lg_cmp0 _ _).trans (ts_bit (by omega) (sh_j j (by omega)))
    have hbj := hb j (by omega)
    have ea : agF H gf (256 - hi * 64 - j) (hi * 64 + j) = if bdS H gf (hi * 64 + j) then nI (hi * 64 + j) else agF H gf (256 - hi * 64 - (j + 1)) (hi * 64 + (j + 1)) := by
      rw [show 256 - hi * 64 - j = (256 - hi * 64 - (j + 1)) + 1 by omega]
      rfl
    rw [ea]
    cases hv : bdS H gf (hi * 64 + j) with
    | true =>
      refine ⟨M, ?_, hQ⟩
      refine (ge_X5_leastAgainst_67 n 74 10 g (nI hi) bad (nI j) M).trans ?_
      unfold T_X5_leastAgainst_67
      have q : (lg_cmp ((lushr bad (nI j)) &&& 1) 0 = 0) = False := eq_false (fun z => by
        have := tb.mp z
        rw [hbj, hv] at this
        cases this)
      simp only [h64, q, ↓reduceIte, hj_64 hi hh j (by omega)]
    | false =>
      obtain ⟨M1, y, q1⟩ := ih (j + 1) (by omega)
      refine ⟨M1, ?_, q1⟩
      refine (ge_X5_leastAgainst_67 n 74 10 g (nI hi) bad (nI j) M).trans ?_
      unfold T_X5_leastAgainst_67
      have q : (lg_cmp ((lushr bad (nI j)) &&& 1) 0 = 0) = True := eq_true (tb.mpr (by rw [hbj, hv]))
      simp only [h64, q, ↓reduceIte, nI_1]
      exact y
set_option maxHeartbeats 1000000 in
theorem la_30 (Q : Mem → Prop) (hW : Wd M) (hT : TabC M c) (hP : PrS M S 5200) (h4 : cP S 5200 ≤ 420) (hTr : TrT M (dC M) S hi (cP S 5200)) (hSH : ∀ v, v < c → (∃ x, x ∈ H ∧ x.2 = dC M v) → S v) (hH : HyC M 10 c H) {g : Int32} (hh : hi < 4) (hQ : Q M) (hN : ∃ M1, lp (st_X5_leastAgainst (n + 2)) (2, [.ref 74, .ref 10, .int g, .int (nI (hi + 1))], M) = some (agF H gf (256 - (hi + 1) * 64) ((hi + 1) * 64), M1) ∧ Q M1) : ∀ z k, k + z = H.length → ∀ bad : Int64, (∀ j, j < 64 → b64 bad j = (!tv (hi * 64 + j) gf && (H.take k).all (fun x => tv (hi * 64 + j) x.2))) → ∃ M1, lp (st_X5_leastAgainst (n + 2)) (30, [.ref 74, .ref 10, .int g, .int (nI hi), .long bad, .int (nI k)], M) = some (agF H gf (256 - hi * 64) (hi * 64), M1) ∧ Q M1 := by
  obtain ⟨m, hmn⟩ : ∃ m, m = n + 1 := ⟨_, rfl⟩
  rw [show n + 2 = m + 1 by omega] at hN ⊢
  have hO10 : fO M 10 2 := ⟨by rw [hW.1]; omega, s_10 hW⟩
  have h6 := hH.2.1
  have hc := hT.2.1
  intro z
  induction z with
  | zero =>
    intro k hk bad hb
    have e : k = H.length := by omega
    subst e
    rw [List.take_length] at hb
    obtain ⟨M1, y, q⟩ := la_67 Q hh (fun j hj => hb j hj) hQ hN 64 0 (by omega)
    refine ⟨M1, ?_, q⟩
    refine (ge_X5_leastAgainst_30 (m + 1) 74 10 g (nI hi) bad (nI H.length) M).trans ?_
    unfold T_X5_leastAgainst_30
    have hle : (nI H.length ≤ nI H.length) = True := eq_true (by rw [nI_le_ (by omega) (by omega)]; omega)
    simp only [↓gd_pos hO10, hH.1, hle, ↓reduceIte]
    exact y
  | succ z ih =>
    intro k hk bad hb
    obtain ⟨u, u1, -, u3, u4, -⟩ := hH.2.2 k (by omega)
    have k0 := c_formulaOf10 hW m hH (show k < H.length by omega)
    rw [u3] at k0
    obtain ⟨r, w, k1, k2, bw⟩ := c_truth hW hP h4 hTr (hSH u u1 ⟨H[k], List.getElem_mem _, u4.symm⟩) (by omega) n
    rw [← hmn] at k1 k2
    obtain ⟨M1, y, q⟩ := ih (k + 1) (by omega) (bad &&& w) (fun j hj => by
      rw [b64_and, hb j hj, bw j hj, u4, List.take_succ_eq_append_getElem (by omega), List.all_append, Bool.and_assoc]
      simp)
    refine ⟨M1, ?_, q⟩
    refine (ge_X5_leastAgainst_30 (m + 1) 74 10 g (nI hi) bad (nI k) M).trans ?_
    unfold T_X5_leastAgainst_30
    have hle : (nI H.length ≤ nI k) = False := eq_false (by rw [nI_le_ (by omega) (by omega)]; omega)
    simp only [↓gd_pos hO10, hH.1, hle, ↓reduceIte, ↓bnd2_of (show cal (m + 1) (fun zz => f_X2_formulaOf zz 10 (nI k) M) = _ from k0), ↓gd_pos (fO74 hW), ↓bnd2_of (show cal (m + 1) (fun zz => f_X5_spotOf zz 74 (nI u) M) = _ from k1), ↓bnd2_of (show cal (m + 1) (fun zz => f_X5_truthAt zz 74 (nI r) M) = _ from k2), nI_1]
    exact y
set_option maxHeartbeats 1000000 in
theorem la_2 (hW0 : Wd M0) (hT0 : TabC M0 c) (hS : ClP M0 c S) (hP : PrS M0 S 5200) (h4 : cP S 5200 ≤ 420) (hSH : ∀ v, v < c → (∃ x, x ∈ H ∧ x.2 = dC M0 v) → S v) (hH : HyC M0 10 c H) {g : Nat} (hg : S g) (hgf : dC M0 g = gf) : ∀ z hi, hi + z = 4 → ∀ (M : Mem), Fr S79 M0 M → ∃ M1, lp (st_X5_leastAgainst (n + 3)) (2, [.ref 74, .ref 10, .int (nI g), .int (nI hi)], M) = some (agF H gf (256 - hi * 64) (hi * 64), M1) ∧ Fr S79 M0 M1 := by
  obtain ⟨m, hmn⟩ : ∃ m, m = n + 2 := ⟨_, rfl⟩
  rw [show n + 3 = m + 1 by omega]
  have hc := hT0.2.1
  intro z
  induction z with
  | zero =>
    intro hi hz M F
    have e : hi = 4 := by omega
    subst e
    refine ⟨M, ?_, F⟩
    refine (ge_X5_leastAgainst_2 (m + 1) 74 10 (nI g) (nI 4) M).trans ?_
    unfold T_X5_leastAgainst_2
    have h : ((4 : Int32) ≤ nI 4) = True := eq_true (by decide)
    simp only [h, ↓reduceIte]
    rfl
  | succ z ih =>
    intro hi hz M F
    have hW := F.Wd hW0
    obtain ⟨M1, y1, F1, T1⟩ := ft_loop (n := n) hW0 hT0 hS hP h4 (show hi < 4 by omega) (cP S 5200) 0 (by omega) M F (fun u _ q => by omega)
    have y1' : f_X5_fillTruths (n + 2) 74 (nI hi) M = some ((), M1) := (ge_X5_fillTruths_0 (n + 2) 74 (nI hi) M).trans y1
    rw [← hmn] at y1'
    have hW1 := F1.Wd hW0
    have T1' : TrT M1 (dC M1) S hi (cP S 5200) := by rw [dC_79 F1]; exact T1
    have hT1 := (hT0.s79 F1).1
    have hP1 := hP.s79 F1
    have hd := dC_79 F1
    obtain ⟨r, w, k1, k2, bw⟩ := c_truth hW1 hP1 h4 T1' hg (by have := (hS g hg).1; omega) (n + 1)
    rw [show n + 1 + 1 = m by omega] at k1 k2
    obtain ⟨M2, y2, F2⟩ := ih (hi + 1) (by omega) M1 F1
    have H1 : HyC M1 10 c H := hH.up F1 (fun a k q => by unfold S79 at q; omega) (fun i _ => by rw [hd]) (Nat.le_refl _)
    obtain ⟨M3, y3, F3⟩ := la_30 (n := n + 1) (gf := gf) (Fr S79 M0) hW1 hT1 hP1 h4 T1' (by rw [hd]; exact hSH) H1 (g := nI g) (show hi < 4 by omega) F1 ⟨M2, by rw [show n + 1 + 2 = m + 1 by omega]; exact y2, F2⟩ H.length 0 (by omega) (w ^^^ (-1)) (fun j hj => by
      rw [b64_not _ hj, bw j hj, hd, hgf]
      simp)
    rw [show n + 1 + 2 = m + 1 by omega] at y3
    refine ⟨M3, ?_, F3⟩
    refine (ge_X5_leastAgainst_2 (m + 1) 74 10 (nI g) (nI hi) M).trans ?_
    unfold T_X5_leastAgainst_2
    have h : ((4 : Int32) ≤ nI hi) = False := eq_false (by rw [show (4 : Int32) = nI 4 from rfl, nI_le_ (by omega) (by omega)]; omega)
    simp only [h, ↓reduceIte, ↓gd_pos (fO74 hW), ↓bnd2_of (show cal (m + 1) (fun zz => f_X5_fillTruths zz 74 (nI hi) M) = _ from y1'), ↓gd_pos (fO74 hW1), ↓bnd2_of (show cal (m + 1) (fun zz => f_X5_spotOf zz 74 (nI g) M1) = _ from k1), ↓bnd2_of (show cal (m + 1) (fun zz => f_X5_truthAt zz 74 (nI r) M1) = _ from k2)]
    exact y3
end LA0
