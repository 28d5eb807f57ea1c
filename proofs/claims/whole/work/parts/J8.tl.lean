/-! THE DECIDER in the class: tryImps -/
section TL8
variable {M M1 : Mem} {m n g : Nat} {kd lf rt : Nat → Nat} {asked granted : Nat → Prop} {aw : Int64}
theorem ti_fin (hP : PtOk m kd lf rt asked granted) {w0 w v : Int64} (hF : Fol m kd lf rt w0 w) (h1 : Sat m kd lf rt (St w)) (h2 : Pri m kd lf rt (St w)) (h3 : Con m kd (St w)) (h4 : Mtg m kd lf rt g (St aw) (St w) (St v)) (hc : ∀ i, i < m → Tst m kd lf rt g aw w v i) : ClO m kd lf rt g (St aw) (St w0) (St w) := ClO.fin (fun i _ q => hF.1 i q) hF.2.2 h1 h2 h3 h4 (fun j q => hF.2.1 j q) hP.2.1 (fun i hi e a b c => hc i hi e a b c)
set_option maxHeartbeats 2000000 in
theorem ti_91 {cl : Nat → List Value → Mem → Option (Int64 × Mem)} {cnt : Nat} (hcl : ClK m kd lf rt g aw cl (cnt + 1)) (hP : PtOk m kd lf rt asked granted) (hM : DcM m kd lf rt g aw M) {w v : Int64} (hI : Inr m w) (hcw : cnt ≤ cP (St w) 40) {deep : Nat} (hd : deep ≤ cnt) {i : Nat} (hi : i < m) (e9 : kd i = 9) (ni : ¬ St w i) (nl : ¬ St w (lf i)) (x8 x9 : Int32) :
    (∃ M1, lp (st_X0_tryImps cl (n + 2)) (91, [.ref 80, .int (nI deep), .long w, .long v, .int x8, .int x9, .int (nI i), .int 1], M) = lp (st_X0_tryImps cl (n + 2)) (17, [.ref 80, .int (nI deep), .long w, .long v, .int x8, .int (x9 + 1)], M1) ∧ Fr S84 M M1 ∧ DcM m kd lf rt g aw M1 ∧ Tst m kd lf rt g aw w v i) ∨
    (∃ w2 v2 M1, lp (st_X0_tryImps cl (n + 2)) (91, [.ref 80, .int (nI deep), .long w, .long v, .int x8, .int x9, .int (nI i), .int 1], M) = lp (st_X0_tryImps cl (n + 2)) (17, [.ref 80, .int (nI deep), .long w2, .long v2, .int 0, .int (x9 + 1)], M1) ∧ Fr S84 M M1 ∧ DcM m kd lf rt g aw M1 ∧ Fol m kd lf rt w w2 ∧ Sat m kd lf rt (St w2) ∧ Pri m kd lf rt (St w2) ∧ Con m kd (St w2) ∧ Mtg m kd lf rt g (St aw) (St w2) (St v2) ∧ cP (St w) 40 < cP (St w2) 40) ∨
    ClA2 m kd lf rt g aw M w (lp (st_X0_tryImps cl (n + 2)) (91, [.ref 80, .int (nI deep), .long w, .long v, .int x8, .int x9, .int (nI i), .int 1], M)) := by
  obtain ⟨q, hq⟩ : ∃ q, q = n + 1 := ⟨_, rfl⟩
  rw [show n + 2 = q + 1 by omega]
  obtain ⟨hW, hD, hQ, hMm⟩ := hM
  have h40 := hD.2.1
  obtain ⟨l1, l2⟩ := hP.2.1 i hi (by omega)
  obtain ⟨k1, k2, -⟩ := hD.2.2.1 i hi
  obtain ⟨k3, k4⟩ := k2 (by omega)
  have one : ((1 : Int32) = 0) = False := eq_false (by decide)
  by_cases hv : b64 v i = true
  · have qv : (b64 v i = false) = False := eq_false (by rw [hv]; exact Bool.noConfusion)
    have hSl : St (w ||| bt (lf i)) = fun j => St w j ∨ j = lf i := St_or (by omega)
    have hIl : Inr m (w ||| bt (lf i)) := fun j h => by
      have h : St (w ||| bt (lf i)) j := h
      rw [hSl] at h
      exact h.elim (hI j) (fun r => by omega)
    have gl : cP (St w) 40 < cP (St (w ||| bt (lf i))) 40 := SbS.or.grow hIl h40 (fun e => nl (by
      show b64 w (lf i) = true
      rw [← e, b64_or, (bt_mem (show lf i < 40 by omega)).mpr rfl, Bool.or_true]))
    obtain ⟨R, M1, y0, C1, F1, D1⟩ := hcl (w ||| bt (lf i)) M (deep + 1) ⟨hW, hD, hQ, hMm⟩ hIl (by omega) (by omega)
    have D1' := D1
    obtain ⟨hW1, hD1, hQ1, hMm1⟩ := D1'
    have y1 : cl 0 [.ref 80, .long (w ||| M.2.2.2.1 82 ((nI i).toNatClampNeg)), .int (nI deep + 1)] M = some (R, M1) := by
      rw [nI_z (by omega), k3, nI_1]
      exact y0
    have k4' := ((hD1.2.2.1 i hi).2.1 (by omega)).2
    have ey := ge_X0_tryImps_91 cl (q + 1) 80 (nI deep) w v x8 x9 (nI i) 1 M
    by_cases hR : b64 R (rt i) = false
    · have qR := eq_true hR
      refine Or.inl ⟨M1, ?_, F1, D1, fun _ _ _ _ => ⟨St R, by rw [← hSl]; exact C1, fun z => by
        have z : b64 R (rt i) = true := z
        rw [hR] at z; cases z⟩⟩
      refine ey.trans ?_
      unfold T_X0_tryImps_91
      simp (disch := omega) only [one, ↓reduceIte, cm_sh (show i < 64 by omega), qv, ↓gd_pos (fO80 hW), ↓bnd_of (r_80_2 hW), ↓gd_pos (fA82 hW (show i < 40 by omega)), ↓bnd2_of y1, ↓gd_pos (fO80 hW1), ↓bnd_of (r_80_3 hW1), ↓gd_pos (fA83 hW1 (show i < 40 by omega)), nI_z, k4', cm_bt (show rt i < 40 by omega), qR]
    · have qR := eq_false hR
      have hRr : St R (rt i) := by
        show b64 R (rt i) = true
        cases h : b64 R (rt i) with
        | true => rfl
        | false => exact absurd h hR
      have en : EnI m kd lf rt (St w) i := EnI.imp_r hP hi e9 (by rw [← hSl]; exact C1.1 (rt i) (by omega) hRr)
      have hSi : St (w ||| bt i) = fun j => St w j ∨ j = i := St_or (by omega)
      have Fi : Fol m kd lf rt w (w ||| bt i) := ⟨SbS.or, fun j h => by
        have h : St (w ||| bt i) j := h
        rw [hSi] at h
        exact h.elim (hI j) (fun r => by omega), fun j hj h => by
        rw [hSi] at h
        exact h.elim (fun r => EnI.mem hj r) (fun r => by rw [r]; exact en)⟩
      have gi : cP (St w) 40 < cP (St (w ||| bt i)) 40 := SbS.or.grow Fi.2.1 h40 (fun e => ni (by
        show b64 w i = true
        rw [← e, b64_or, (bt_mem (show i < 40 by omega)).mpr rfl, Bool.or_true]))
      obtain ⟨w2, y2, F2, S2⟩ := c_saturate hW1 hD1 hP Fi.2.1 n
      have y2' : f_X0_saturate q 80 (w ||| (1 <<< (Int32.toInt64 (nI i) &&& 63))) M1 = some (w2, M1) := by
        rw [hq]
        exact y2
      have Fw := Fi.trans F2
      have gw : cP (St w) 40 < cP (St w2) 40 := Nat.lt_of_lt_of_le gi (cP_sub F2.1 40)
      obtain ⟨R3, M3, y3, C3, F3, D3⟩ := hcl w2 M1 (deep + 1) D1 Fw.2.1 (by omega) (by omega)
      have y3' : cl 0 [.ref 80, .long w2, .int (nI deep + 1)] M1 = some (R3, M3) := by
        rw [nI_1]
        exact y3
      have C3' : ClO m kd lf rt g (St aw) (St w) (St R3) := ClO.pre (fun j _ h => Fw.1 j h) Fw.2.2 C3
      by_cases hno : Con m kd (St w2)
      · have qn := eq_true ((cm_no hD1 w2).mpr hno)
        rcases c_openOr hW1 hD1 hP w2 q with ⟨y4, hp⟩ | ⟨e, e1, -, -, -, -, y4⟩
        · obtain ⟨v2, y5, m5⟩ := c_mattering hW1 hD1 hQ1 hP w2 q
          refine Or.inr (Or.inl ⟨w2, v2, M1, ?_, F1, D1, Fw, S2, hp, hno, m5, gw⟩)
          refine ey.trans ?_
          unfold T_X0_tryImps_91
          simp (disch := omega) only [one, ↓reduceIte, cm_sh (show i < 64 by omega), qv, ↓gd_pos (fO80 hW), ↓bnd_of (r_80_2 hW), ↓gd_pos (fA82 hW (show i < 40 by omega)), ↓bnd2_of y1, ↓gd_pos (fO80 hW1), ↓bnd_of (r_80_3 hW1), ↓gd_pos (fA83 hW1 (show i < 40 by omega)), nI_z, k4', cm_bt (show rt i < 40 by omega), qR, ↓bnd2_of (show cal (q + 1) (fun zz => f_X0_saturate zz 80 (w ||| (1 <<< (Int32.toInt64 (nI i) &&& 63))) M1) = _ from y2'), qn, ↓bnd2_of (show cal (q + 1) (fun zz => f_X0_openOr zz 80 w2 M1) = _ from y4), ↓bnd2_of (show cal (q + 1) (fun zz => f_X0_mattering zz 80 w2 M1) = _ from y5)]
        · refine Or.inr (Or.inr ⟨R3, M3, ?_, C3', F1.trans F3, D3⟩)
          refine ey.trans ?_
          unfold T_X0_tryImps_91
          have ne : (nI e = (-1 : Int32)) = False := nI_ne_m1 (by omega)
          simp (disch := omega) only [one, ↓reduceIte, cm_sh (show i < 64 by omega), qv, ↓gd_pos (fO80 hW), ↓bnd_of (r_80_2 hW), ↓gd_pos (fA82 hW (show i < 40 by omega)), ↓bnd2_of y1, ↓gd_pos (fO80 hW1), ↓bnd_of (r_80_3 hW1), ↓gd_pos (fA83 hW1 (show i < 40 by omega)), nI_z, k4', cm_bt (show rt i < 40 by omega), qR, ↓bnd2_of (show cal (q + 1) (fun zz => f_X0_saturate zz 80 (w ||| (1 <<< (Int32.toInt64 (nI i) &&& 63))) M1) = _ from y2'), qn, ↓bnd2_of (show cal (q + 1) (fun zz => f_X0_openOr zz 80 w2 M1) = _ from y4), ne, ↓bnd2_of y3']
      · have qn := eq_false (fun z => hno ((cm_no hD1 w2).mp z))
        refine Or.inr (Or.inr ⟨R3, M3, ?_, C3', F1.trans F3, D3⟩)
        refine ey.trans ?_
        unfold T_X0_tryImps_91
        simp (disch := omega) only [one, ↓reduceIte, cm_sh (show i < 64 by omega), qv, ↓gd_pos (fO80 hW), ↓bnd_of (r_80_2 hW), ↓gd_pos (fA82 hW (show i < 40 by omega)), ↓bnd2_of y1, ↓gd_pos (fO80 hW1), ↓bnd_of (r_80_3 hW1), ↓gd_pos (fA83 hW1 (show i < 40 by omega)), nI_z, k4', cm_bt (show rt i < 40 by omega), qR, ↓bnd2_of (show cal (q + 1) (fun zz => f_X0_saturate zz 80 (w ||| (1 <<< (Int32.toInt64 (nI i) &&& 63))) M1) = _ from y2'), qn, ↓bnd2_of y3']
  · refine Or.inl ⟨M, ?_, Fr.refl, ⟨hW, hD, hQ, hMm⟩, fun _ h => absurd h hv⟩
    refine (ge_X0_tryImps_91 cl (q + 1) 80 (nI deep) w v x8 x9 (nI i) 1 M).trans ?_
    unfold T_X0_tryImps_91
    have qv : (b64 v i = false) = True := eq_true (Bool.eq_false_iff.mpr hv)
    simp (disch := omega) only [one, ↓reduceIte, cm_sh (show i < 64 by omega), qv]
end TL8
