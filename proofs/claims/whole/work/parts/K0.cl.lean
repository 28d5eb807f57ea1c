/-! THE DECIDER in the class: close -/
section CL0
variable {M M1 : Mem} {m n g : Nat} {kd lf rt : Nat → Nat} {granted : Nat → Prop} {aw : Int64}
theorem ClK.mono {cl : Nat → List Value → Mem → Option (Int64 × Mem)} {a b : Nat} (h : ClK m kd lf rt g aw cl a) (hab : a ≤ b) : ClK m kd lf rt g aw cl b := fun w M deep hM hI hc hd => h w M deep hM hI (by omega) hd
set_option maxHeartbeats 2000000 in
theorem cl_73 {cl : Nat → List Value → Mem → Option (Int64 × Mem)} {w : Int64} (hcl : ClK m kd lf rt g aw cl (cP (St w) 40 + 1)) (hP : PtOk m kd lf rt (St aw) granted) (hM : DcM m kd lf rt g aw M) (hI : Inr m w) {deep : Nat} (hd : deep ≤ cP (St w) 40) (hti : Pri m kd lf rt (St w) → ClA2 m kd lf rt g aw M w (cl 1 [.ref 80, .long w, .int (nI deep)] M)) (n : Nat) : ClA2 m kd lf rt g aw M w (lp (st_X0_close cl (n + 2)) (73, [.ref 80, .int (nI deep), .long w], M)) := by
  have hM' := hM
  obtain ⟨hW, hD, hQ, -⟩ := hM'
  have h40 := hD.2.1
  obtain ⟨q, hq⟩ : ∃ q, q = n + 1 := ⟨_, rfl⟩
  rw [show n + 2 = q + 1 by omega]
  have ey := ge_X0_close_73 cl (q + 1) 80 (nI deep) w M
  unfold T_X0_close_73 at ey
  rcases c_openOr hW hD hP w q with ⟨y4, hp⟩ | ⟨e, e1, e2, e3, e4, e5, y4⟩
  · obtain ⟨R, M1, y1, C1, F1, D1⟩ := hti hp
    obtain ⟨M2, y2, F2, m2⟩ := c_remember D1.1 D1.2.2.2 C1 n
    rw [← hq] at y2
    refine ⟨R, M2, ?_, C1, F1.trans F2, D1.fr F2 m2⟩
    refine ey.trans ?_
    have q0 : ((-1 : Int32) < 0) = True := eq_true (by decide)
    simp only [↓gd_pos (fO80 hW), ↓bnd2_of (show cal (q + 1) (fun zz => f_X0_openOr zz 80 w M) = _ from y4), q0, ↓reduceIte]
    refine (ge_X0_close_135 cl (q + 1) 80 (nI deep) w M).trans ?_
    unfold T_X0_close_135
    simp only [↓gd_pos (fO80 hW), ↓bnd2_of y1, ↓gd_pos (fO80 D1.1), ↓bnd2_of (show cal (q + 1) (fun zz => f_X0_remember zz 80 w R M1) = _ from y2)]
  · obtain ⟨l1, l2⟩ := hP.2.1 e e1 (by omega)
    have hSl : St (w ||| bt (lf e)) = fun j => St w j ∨ j = lf e := St_or (by omega)
    have hSr : St (w ||| bt (rt e)) = fun j => St w j ∨ j = rt e := St_or (by omega)
    have hIl : Inr m (w ||| bt (lf e)) := fun j h => by
      have h : St (w ||| bt (lf e)) j := h
      rw [hSl] at h
      exact h.elim (hI j) (fun r => by omega)
    have hIr : Inr m (w ||| bt (rt e)) := fun j h => by
      have h : St (w ||| bt (rt e)) j := h
      rw [hSr] at h
      exact h.elim (hI j) (fun r => by omega)
    have gl : cP (St w) 40 < cP (St (w ||| bt (lf e))) 40 := SbS.or.grow hIl h40 (fun z => e4 (by
      show b64 w (lf e) = true
      rw [← z, b64_or, (bt_mem (show lf e < 40 by omega)).mpr rfl, Bool.or_true]))
    have gr : cP (St w) 40 < cP (St (w ||| bt (rt e))) 40 := SbS.or.grow hIr h40 (fun z => e5 (by
      show b64 w (rt e) = true
      rw [← z, b64_or, (bt_mem (show rt e < 40 by omega)).mpr rfl, Bool.or_true]))
    obtain ⟨R1, M1, y1, C1, F1, D1⟩ := hcl _ M (deep + 1) hM hIl (by omega) (by omega)
    obtain ⟨R2, M2, y2, C2, F2, D2⟩ := hcl _ M1 (deep + 1) D1 hIr (by omega) (by omega)
    rw [hSl] at C1
    rw [hSr] at C2
    have CC : ClO m kd lf rt g (St aw) (St w) (St (R1 &&& R2)) := by
      have h := ClO.both hP e1 e2 e3 C1 C2
      have eq : (fun j => St R1 j ∧ St R2 j) = St (R1 &&& R2) := by
        funext j
        apply propext
        show b64 R1 j = true ∧ b64 R2 j = true ↔ b64 (R1 &&& R2) j = true
        rw [b64_and, Bool.and_eq_true]
      rw [eq] at h
      exact h
    obtain ⟨M3, y3, F3, m3⟩ := c_remember D2.1 D2.2.2.2 CC n
    rw [← hq] at y3
    obtain ⟨k3, -⟩ := (hD.2.2.1 e e1).2.1 (by omega)
    obtain ⟨-, k4⟩ := (D1.2.1.2.2.1 e e1).2.1 (by omega)
    have y1' : cl 0 [.ref 80, .long (w ||| M.2.2.2.1 82 ((nI e).toNatClampNeg)), .int (nI deep + 1)] M = some (R1, M1) := by
      rw [nI_z (by omega), k3, nI_1]
      exact y1
    have y2' : cl 0 [.ref 80, .long (w ||| M1.2.2.2.1 83 ((nI e).toNatClampNeg)), .int (nI deep + 1)] M1 = some (R2, M2) := by
      rw [nI_z (by omega), k4, nI_1]
      exact y2
    refine ⟨R1 &&& R2, M3, ?_, CC, (F1.trans F2).trans F3, D2.fr F3 m3⟩
    refine ey.trans ?_
    have q0 : (nI e < (0 : Int32)) = False := nI_lt0 (by omega)
    have q1 : (nI m ≤ nI e) = False := eq_false (by rw [nI_le_ (by omega) (by omega)]; omega)
    simp only [↓gd_pos (fO80 hW), ↓bnd2_of (show cal (q + 1) (fun zz => f_X0_openOr zz 80 w M) = _ from y4), q0, hD.1, q1, ↓reduceIte, ↓bnd_of (r_80_2 hW), ↓gd_pos (fA82 hW (show e < 40 by omega)), ↓bnd2_of y1', ↓gd_pos (fO80 D1.1), ↓bnd_of (r_80_3 D1.1), ↓gd_pos (fA83 D1.1 (show e < 40 by omega)), ↓bnd2_of y2', ↓gd_pos (fO80 D2.1), ↓bnd2_of (show cal (q + 1) (fun zz => f_X0_remember zz 80 w (R1 &&& R2) M2) = _ from y3)]
set_option maxHeartbeats 2000000 in
theorem cl_0 {cl : Nat → List Value → Mem → Option (Int64 × Mem)} {w : Int64} (hP : PtOk m kd lf rt (St aw) granted) (hM : DcM m kd lf rt g aw M) (hI : Inr m w) {deep : Nat} (hd : deep ≤ cP (St w) 40) (n : Nat) (h71 : ∀ k, Fol m kd lf rt w k → Sat m kd lf rt (St k) → Con m kd (St k) → ClA2 m kd lf rt g aw M k (lp (st_X0_close cl (n + 2)) (73, [.ref 80, .int (nI deep), .long k], M))) : ClA2 m kd lf rt g aw M w (lp (st_X0_close cl (n + 2)) (0, [.ref 80, .long w, .int (nI deep)], M)) := by
  have hM' := hM
  obtain ⟨hW, hD, hQ, hMm⟩ := hM'
  have h40 := hD.2.1
  have hz := cP_z (S := St w) 40
  obtain ⟨q, hq⟩ : ∃ q, q = n + 1 := ⟨_, rfl⟩
  rw [show n + 2 = q + 1 by omega] at h71 ⊢
  obtain ⟨k, y1, F1, S1⟩ := c_saturate hW hD hP hI n
  rw [← hq] at y1
  have ey := ge_X0_close_0 cl (q + 1) 80 w (nI deep) M
  unfold T_X0_close_0 at ey
  have h64 : (nI deep ≤ (64 : Int32)) = True := eq_true (by rw [show (64 : Int32) = nI 64 from rfl, nI_le_ (by omega) (by omega)]; omega)
  by_cases hno : Con m kd (St k)
  · have qn := eq_true ((cm_no hD k).mpr hno)
    obtain ⟨r, y2, sp⟩ := c_memoSpot hW k q
    -- nothing is remembered
    have go : lp (st_X0_close cl (q + 1)) (0, [.ref 80, .long w, .int (nI deep)], M) = lp (st_X0_close cl (q + 1)) (73, [.ref 80, .int (nI deep), .long k], M) → ClA2 m kd lf rt g aw M w (lp (st_X0_close cl (q + 1)) (0, [.ref 80, .long w, .int (nI deep)], M)) := fun e => by
      obtain ⟨R, M1, y, C1, F2, D1⟩ := h71 k F1 S1 hno
      exact ⟨R, M1, e.trans y, ClO.pre (fun j _ h => F1.1 j h) F1.2.2 C1, F2, D1⟩
    rcases sp with rfl | ⟨s, hs, rfl, hsp⟩
    · refine go (ey.trans ?_)
      have q0 : ((-1 : Int32) < 0) = True := eq_true (by decide)
      simp only [↓gd_pos (fO80 hW), ↓bnd2_of (show cal (q + 1) (fun zz => f_X0_saturate zz 80 w M) = _ from y1), qn, h64, ↓bnd2_of (show cal (q + 1) (fun zz => f_X0_memoSpot zz 80 k M) = _ from y2), q0, ↓reduceIte]
    · have q0 : (nI s < (0 : Int32)) = False := nI_lt0 (by omega)
      have q2 : ((8192 : Int32) ≤ nI s) = False := eq_false (by rw [show (8192 : Int32) = nI 8192 from rfl, nI_le_ (by omega) (by omega)]; omega)
      by_cases hu : M.2.2.2.1 84 s = 0
      · have qu : (lg_cmp (M.2.2.2.1 84 s) 0 = 0) = True := eq_true ((lg_cmp0 _ _).mpr hu)
        refine go (ey.trans ?_)
        simp (disch := omega) only [↓gd_pos (fO80 hW), ↓bnd2_of (show cal (q + 1) (fun zz => f_X0_saturate zz 80 w M) = _ from y1), qn, h64, ↓bnd2_of (show cal (q + 1) (fun zz => f_X0_memoSpot zz 80 k M) = _ from y2), q0, q2, ↓reduceIte, ↓bnd_of (r_80_4 hW), ↓gd_pos (fA84 hW hs), nI_z, qu]
      · have qu : (lg_cmp (M.2.2.2.1 84 s) 0 = 0) = False := eq_false (fun q => hu ((lg_cmp0 _ _).mp q))
        have hk : M.2.2.2.1 84 s = k + 1 := hsp.resolve_left hu
        have C0 := (hMm s hs).resolve_left hu
        rw [hk, Int64.add_sub_cancel] at C0
        refine ⟨M.2.2.2.1 85 s, M, ey.trans ?_, ClO.pre (fun j _ h => F1.1 j h) F1.2.2 C0, Fr.refl, hM⟩
        simp (disch := omega) only [↓gd_pos (fO80 hW), ↓bnd2_of (show cal (q + 1) (fun zz => f_X0_saturate zz 80 w M) = _ from y1), qn, h64, ↓bnd2_of (show cal (q + 1) (fun zz => f_X0_memoSpot zz 80 k M) = _ from y2), q0, q2, ↓reduceIte, ↓bnd_of (r_80_4 hW), ↓gd_pos (fA84 hW hs), nI_z, qu, ↓bnd_of (r_80_5 hW), ↓gd_pos (fA85 hW hs)]
  · have qn := eq_false (fun z => hno ((cm_no hD k).mp z))
    have : ∃ i, i < m ∧ kd i = 8 ∧ St k i := by
      apply Classical.byContradiction
      intro z
      exact hno (fun i hi e h => z ⟨i, hi, e, h⟩)
    obtain ⟨i, hi, e8, hk⟩ := this
    refine ⟨-1, M, ey.trans ?_, ClO.bad hP hi e8 (F1.2.2 i hi hk) (fun j hj => (show St (-1) j from b64_m1 (show j < 64 by omega))), Fr.refl, hM⟩
    simp only [↓gd_pos (fO80 hW), ↓bnd2_of (show cal (q + 1) (fun zz => f_X0_saturate zz 80 w M) = _ from y1), qn, ↓reduceIte]
theorem cl_main (hP : PtOk m kd lf rt (St aw) granted) : ∀ d n, ClK m kd lf rt g aw (r_X0_close (n + 2 * d + 3)) (41 - d) := by
  intro d
  induction d with
  | zero =>
    intro n w M deep hM hI hc hd
    have := cP_z (S := St w) 40
    omega
  | succ d ih =>
    intro n w M deep hM hI hc hd
    obtain ⟨N, hN⟩ : ∃ N, N = n + 2 * d + 2 := ⟨_, rfl⟩
    have ih1 := ih (n + 1)
    have ih0 := ih n
    rw [show n + 1 + 2 * d + 3 = N + 2 by omega] at ih1
    rw [show n + 2 * d + 3 = N + 1 by omega] at ih0
    rw [show n + 2 * (d + 1) + 3 = N + 1 + 2 by omega]
    show ClA2 m kd lf rt g aw M w (lp (st_X0_close (r_X0_close (N + 2)) (N + 1 + 2)) (0, [.ref 80, .long w, .int (nI deep)], M))
    refine cl_0 hP hM hI hd (N + 1) (fun k F S hno => ?_)
    have hk : cP (St w) 40 ≤ cP (St k) 40 := cP_sub F.1 40
    refine cl_73 (ih1.mono (by omega)) hP hM F.2.1 (by omega) (fun hp => ?_) (N + 1)
    show ClA2 m kd lf rt g aw M k (lp (st_X0_tryImps (r_X0_close (N + 1)) (N + 2)) (0, [.ref 80, .long k, .int (nI deep)], M))
    exact c_tryImps (ih0.mono (by omega)) hP hM F.2.1 S hp hno (by omega) N
theorem c_close (hP : PtOk m kd lf rt (St aw) granted) (hM : DcM m kd lf rt g aw M) {w : Int64} (hI : Inr m w) (n : Nat) : ClA2 m kd lf rt g aw M w (f_X0_close (n + 85) 80 w 0 M) := cl_main hP 41 n w M 0 hM hI (by omega) (by omega)
end CL0
