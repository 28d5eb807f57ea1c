/-! THE DECIDER in the class: tryImps, whole -/
theorem cP_in {S : Nat → Prop} {m : Nat} (h : ∀ v, S v → v < m) : ∀ z, cP S z ≤ m := by
  intro z
  induction z with
  | zero => exact Nat.zero_le _
  | succ z ih =>
    by_cases q : S z
    · have h1 := h z q
      have h2 := cP_z (S := S) z
      rw [cP_y q]; omega
    · rw [cP_n q]; exact ih
section TR9
variable {M M1 : Mem} {m n g : Nat} {kd lf rt : Nat → Nat} {asked granted : Nat → Prop} {aw : Int64}
theorem ti_91z (cl : Nat → List Value → Mem → Option (Int64 × Mem)) (q : Nat) (x3 : Int32) (w v : Int64) (x8 x9 x10 : Int32) (M : Mem) : lp (st_X0_tryImps cl q) (91, [.ref 80, .int x3, .long w, .long v, .int x8, .int x9, .int x10, .int 0], M) = lp (st_X0_tryImps cl q) (17, [.ref 80, .int x3, .long w, .long v, .int x8, .int (x9 + 1)], M) := by
  refine (ge_X0_tryImps_91 cl q 80 x3 w v x8 x9 x10 0 M).trans ?_
  unfold T_X0_tryImps_91
  simp only [↓reduceIte]
set_option maxHeartbeats 2000000 in
theorem ti_17 {cl : Nat → List Value → Mem → Option (Int64 × Mem)} {cnt : Nat} (hcl : ClK m kd lf rt g aw cl (cnt + 1)) (hP : PtOk m kd lf rt asked granted) {w0 : Int64} (hc0 : cP (St w0) 40 = cnt) {deep : Nat} (hd : deep ≤ cnt) : ∀ z t, t + z = m * (m + 1) → ∀ (I : Nat) (w v : Int64) (M : Mem), DcM m kd lf rt g aw M → Fol m kd lf rt w0 w → Sat m kd lf rt (St w) → Pri m kd lf rt (St w) → Con m kd (St w) → Mtg m kd lf rt g (St aw) (St w) (St v) → t ≤ m * (cP (St w) 40 - cnt) + I → I ≤ m → Cov m kd lf rt g aw w v t I → ClA2 m kd lf rt g aw M w0 (lp (st_X0_tryImps cl (n + 2)) (17, [.ref 80, .int (nI deep), .long w, .long v, .int (nI I), .int (nI t)], M)) := by
  intro z
  induction z with
  | zero =>
    intro t ht I w v M hM hF h1 h2 h3 h4 hti hI hc
    have hD := hM.2.1
    have h40 := hD.2.1
    have hG := cP_in (m := m) (S := St w) (fun v q => hF.2.1 v q) 40
    have hmm : m * (cP (St w) 40 - cnt) ≤ m * m := Nat.mul_le_mul_left m (by omega)
    have hm1 : m * (m + 1) = m * m + m := Nat.mul_succ m m
    have hmx : m * m ≤ 40 * 40 := Nat.mul_le_mul h40 h40
    refine ⟨w, M, ?_, ti_fin hP hF h1 h2 h3 h4 (fun i hi => (hc i hi).elim id (fun ⟨d, d1, _⟩ => by omega)), Fr.refl, hM⟩
    refine (ge_X0_tryImps_17 cl (n + 2) 80 (nI deep) w v (nI I) (nI t) M).trans ?_
    unfold T_X0_tryImps_17
    rw [hD.1, nI_1, nI_mul]
    have hle : (nI (m * (m + 1)) ≤ nI t) = True := eq_true (by rw [nI_le_ (by omega) (by omega)]; omega)
    simp only [↓gd_pos (fO80 hM.1), hle, ↓reduceIte]
  | succ z ih =>
    intro t ht I w v M hM hF h1 h2 h3 h4 hti hI hc
    have hM' := hM
    obtain ⟨hW, hD, hQ, -⟩ := hM'
    have h40 := hD.2.1
    have hg := hQ.1
    have hm1 : m * (m + 1) = m * m + m := Nat.mul_succ m m
    have hmx : m * m ≤ 40 * 40 := Nat.mul_le_mul h40 h40
    have hle : (nI (m * (m + 1)) ≤ nI t) = False := eq_false (by rw [nI_le_ (by omega) (by omega)]; omega)
    have ey := ge_X0_tryImps_17 cl (n + 2) 80 (nI deep) w v (nI I) (nI t) M
    unfold T_X0_tryImps_17 at ey
    rw [hD.1, nI_1, nI_mul, md_nI (by omega) h40 (by omega)] at ey
    by_cases hIm : I = m
    · refine ⟨w, M, ?_, ti_fin hP hF h1 h2 h3 h4 (fun i hi => (hc i hi).elim id (fun ⟨d, d1, _⟩ => by omega)), Fr.refl, hM⟩
      refine ey.trans ?_
      have hl2 : (nI m ≤ nI I) = True := eq_true (by rw [nI_le_ (by omega) (by omega)]; omega)
      simp only [↓gd_pos (fO80 hW), hle, hl2, ↓reduceIte]
    · have hl2 : (nI m ≤ nI I) = False := eq_false (by rw [nI_le_ (by omega) (by omega)]; omega)
      have hm0 : ¬ nI m = (0 : Int32) := fun q => by
        have := (nI_eq (b := 0) (by omega) (by omega)).mp q
        omega
      have hi : t % m < m := Nat.mod_lt _ (by omega)
      obtain ⟨i, hie⟩ : ∃ i, i = t % m := ⟨_, rfl⟩
      rw [← hie] at ey hi
      obtain ⟨k1, k2, -⟩ := hD.2.2.1 i hi
      have h11 := hP.1 i hi
      -- a turn at which nothing comes in
      have idle : ∀ (M1 : Mem), DcM m kd lf rt g aw M1 → Fr S84 M M1 → Tst m kd lf rt g aw w v i → lp (st_X0_tryImps cl (n + 2)) (17, [.ref 80, .int (nI deep), .long w, .long v, .int (nI I), .int (nI t)], M) = lp (st_X0_tryImps cl (n + 2)) (17, [.ref 80, .int (nI deep), .long w, .long v, .int (nI (I + 1)), .int (nI (t + 1))], M1) → ClA2 m kd lf rt g aw M w0 (lp (st_X0_tryImps cl (n + 2)) (17, [.ref 80, .int (nI deep), .long w, .long v, .int (nI I), .int (nI t)], M)) := by
        intro M1 D1 F1 T1 e
        obtain ⟨R, M2, y, C2, F2, D2⟩ := ih (t + 1) (by omega) (I + 1) w v M1 D1 hF h1 h2 h3 h4 (by omega) (by omega) (hc.stp (by rw [← hie]; exact T1))
        exact ⟨R, M2, e.trans y, C2, F1.trans F2, D2⟩
      by_cases e9 : kd i = 9
      · obtain ⟨k3, k4⟩ := k2 (by omega)
        obtain ⟨l1, l2⟩ := hP.2.1 i hi (by omega)
        rw [e9] at k1
        have q9 : (nI 9 = (9 : Int32)) = True := eq_true rfl
        have fb : (1 : Int64) <<< (Int32.toInt64 (nI i) &&& 63) = bt i := rfl
        by_cases hop : b64 w (lf i) = false ∧ b64 w i = false
        · have qo := eq_true hop
          have e2 : lp (st_X0_tryImps cl (n + 2)) (17, [.ref 80, .int (nI deep), .long w, .long v, .int (nI I), .int (nI t)], M) = lp (st_X0_tryImps cl (n + 2)) (91, [.ref 80, .int (nI deep), .long w, .long v, .int (nI (I + 1)), .int (nI t), .int (nI i), .int 1], M) := by
            refine ey.trans ?_
            simp (disch := omega) only [↓gd_pos (fO80 hW), hle, hl2, ↓reduceIte, ↓gd_pos hm0, ↓bnd_of (r_80_1 hW), ↓gd_pos (fA81 hW (show i < 40 by omega)), nI_z, k1, q9, ↓bnd_of (r_80_2 hW), ↓gd_pos (fA82 hW (show i < 40 by omega)), k3, fb, cm_bt2 (show lf i < 40 by omega) (show i < 40 by omega), qo, nI_1]
          have hcw : cnt ≤ cP (St w) 40 := by rw [← hc0]; exact cP_sub hF.1 40
          rcases ti_91 (n := n) hcl hP hM hF.2.1 hcw hd hi e9 (fun q => by
            have q : b64 w i = true := q
            rw [hop.2] at q; cases q) (fun q => by
            have q : b64 w (lf i) = true := q
            rw [hop.1] at q; cases q) (v := v) (nI (I + 1)) (nI t) with ⟨M1, y, F1, D1, T1⟩ | ⟨w2, v2, M1, y, F1, D1, Fw, s1, s2, s3, s4, gw⟩ | ⟨R, M1, y, C1, F1, D1⟩
          · rw [nI_1] at y
            exact idle M1 D1 F1 T1 (e2.trans y)
          · rw [nI_1] at y
            have hgr : m * (cP (St w) 40 - cnt) + m ≤ m * (cP (St w2) 40 - cnt) := by
              rw [← Nat.mul_succ]
              exact Nat.mul_le_mul_left m (by omega)
            obtain ⟨R, M2, y2, C2, F2, D2⟩ := ih (t + 1) (by omega) 0 w2 v2 M1 D1 (hF.trans Fw) s1 s2 s3 s4 (by omega) (by omega) (Cov.ini (by omega) _)
            exact ⟨R, M2, e2.trans (y.trans y2), C2, F1.trans F2, D2⟩
          · exact ⟨R, M1, e2.trans y, ClO.pre (fun j _ h => hF.1 j h) hF.2.2 C1, F1, D1⟩
        · have qo := eq_false hop
          refine idle M hM Fr.refl (fun _ _ n1 n2 => absurd ⟨Bool.eq_false_iff.mpr n2, Bool.eq_false_iff.mpr n1⟩ hop) ?_
          refine ey.trans ?_
          simp (disch := omega) only [↓gd_pos (fO80 hW), hle, hl2, ↓reduceIte, ↓gd_pos hm0, ↓bnd_of (r_80_1 hW), ↓gd_pos (fA81 hW (show i < 40 by omega)), nI_z, k1, q9, ↓bnd_of (r_80_2 hW), ↓gd_pos (fA82 hW (show i < 40 by omega)), k3, fb, cm_bt2 (show lf i < 40 by omega) (show i < 40 by omega), qo, nI_1, ti_91z]
      · have q9 : (nI (kd i) = (9 : Int32)) = False := eq_false (fun q => e9 ((nI_eq (by omega) (by omega)).mp q))
        refine idle M hM Fr.refl (fun e => absurd e e9) ?_
        refine ey.trans ?_
        simp (disch := omega) only [↓gd_pos (fO80 hW), hle, hl2, ↓reduceIte, ↓gd_pos hm0, ↓bnd_of (r_80_1 hW), ↓gd_pos (fA81 hW (show i < 40 by omega)), nI_z, k1, q9, nI_1, ti_91z]
theorem c_tryImps {cl : Nat → List Value → Mem → Option (Int64 × Mem)} {w : Int64} (hcl : ClK m kd lf rt g aw cl (cP (St w) 40 + 1)) (hP : PtOk m kd lf rt asked granted) (hM : DcM m kd lf rt g aw M) (hI : Inr m w) (h1 : Sat m kd lf rt (St w)) (h2 : Pri m kd lf rt (St w)) (h3 : Con m kd (St w)) {deep : Nat} (hd : deep ≤ cP (St w) 40) (n : Nat) : ClA2 m kd lf rt g aw M w (lp (st_X0_tryImps cl (n + 2)) (0, [.ref 80, .long w, .int (nI deep)], M)) := by
  have hM' := hM
  obtain ⟨hW, hD, hQ, -⟩ := hM'
  have hg := hQ.1
  obtain ⟨q, hq⟩ : ∃ q, q = n + 1 := ⟨_, rfl⟩
  obtain ⟨v, y, m4⟩ := c_mattering hW hD hQ hP w q
  obtain ⟨R, M1, y2, C2, F2, D2⟩ := ti_17 (n := n) hcl hP rfl hd (m * (m + 1)) 0 (by omega) 0 w v M hM (Fol.refl hI) h1 h2 h3 m4 (by omega) (by omega) (Cov.ini (by omega) _)
  refine ⟨R, M1, ?_, C2, F2, D2⟩
  rw [show n + 2 = q + 1 by omega] at y2 ⊢
  refine (ge_X0_tryImps_0 cl (q + 1) 80 w (nI deep) M).trans ?_
  unfold T_X0_tryImps_0
  simp only [↓gd_pos (fO80 hW), ↓bnd2_of (show cal (q + 1) (fun zz => f_X0_mattering zz 80 w M) = _ from y)]
  exact y2
end TR9
