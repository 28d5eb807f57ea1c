/-! REDEXES, the call -/
section RDX
variable {M M1 : Mem} {c c1 : Nat} {H : List (Nat × Fm)} {gf : Fm} {T : Nat → Option Tm} {CI : Fm → Prop} {K : Nat}
theorem rx_isTo (k : Nat) {n : Nat} (hn : n < 1000) {hi : Int64} (he : hi = Int32.toInt64 (nI n)) (x : Int32) : (∀ j, j ≤ n → x = nI j → f_X11_isIn k (Int32.toInt64 x) 0 hi M = some (1, M)) ∧ ((∀ j, j ≤ n → x ≠ nI j) → f_X11_isIn k (Int32.toInt64 x) 0 hi M = some (0, M)) := by
  have hin := rx_isIn (M := M) k (Int32.toInt64 x) (Int32.toInt64 0) (Int32.toInt64 (nI n))
  rw [fa_wide_le, fa_wide_le] at hin
  have l0 : (0 : Int64) = Int32.toInt64 0 := by decide
  rw [l0, he]
  constructor
  · intro j hj e
    refine hin.1 ⟨by rw [e]; exact nI_pos' (by omega), ?_⟩
    rw [e, nI_le_ (by omega) (by omega)]
    exact hj
  · intro h
    refine hin.2 (fun q => ?_)
    obtain ⟨j, hj, e⟩ := nI_of (x := x) (Int32.not_lt.mpr q.1)
    rw [e, nI_le_ (by omega) (by omega)] at q
    exact h j q.2 e
theorem rdo_loop (hW : Wd M) {t : Tm} (ht : isT t) (hR : WrkR M c (rws t)) (k : Nat) {kd : Nat} (hk : kd ≤ 7) : ∀ z i, i + z = sz t → lp (st_X11_redexesOf (k + 2)) (4, [.ref 89, .int (nI kd), .int (nI (crd (rws t) kd i)), .int (nI i)], M) = some (nI (crd (rws t) kd (sz t)), M) := by
  have hl := hR.2.1
  rw [rws_len] at hl
  obtain ⟨q, hq⟩ : ∃ q, q = k + 1 := ⟨_, rfl⟩
  rw [show k + 2 = q + 1 by omega]
  have h24 : M.2.2.1 89 24 = nI (sz t) := hR.1
  intro z
  induction z with
  | zero =>
    intro i hi
    have e : i = sz t := by omega
    subst e
    refine (ge_X11_redexesOf_4 (q + 1) 89 (nI kd) _ (nI (sz t)) M).trans ?_
    unfold T_X11_redexesOf_4
    simp (disch := omega) only [↓gd_pos (fO_R hW), h24, nI_le_, Nat.le_refl, ↓reduceIte]
  | succ z ih =>
    intro i hi
    have e := rx_redexAt hW hR k (i := i) (by rw [rws_len]; omega) (nxt_in ht (by rw [rws_len]; omega))
    rw [show k + 1 = q by omega] at e
    have hr7 : rdl (rws t) i ≤ 7 := rdk_le _ _
    have hcl := crd_le (rws t) kd i
    have ih' := ih (i + 1) (by omega)
    refine (ge_X11_redexesOf_4 (q + 1) 89 (nI kd) _ (nI i) M).trans ?_
    unfold T_X11_redexesOf_4
    have hle0 : (nI (rdl (rws t) i) ≤ (0 : Int32)) = (rdl (rws t) i = 0) := by
      rw [show (0 : Int32) = nI 0 from rfl, nI_le_ (by omega) (by omega)]
      exact propext ⟨fun q => by omega, fun q => by omega⟩
    have hk0 : (nI kd = (0 : Int32)) = (kd = 0) := by rw [show (0 : Int32) = nI 0 from rfl, nI_eq_ (by omega) (by omega)]
    have hstep : crd (rws t) kd (i + 1) = if rdl (rws t) i ≠ 0 ∧ (kd = 0 ∨ kd = rdl (rws t) i) then crd (rws t) kd i + 1 else crd (rws t) kd i := rfl
    simp (disch := omega) only [↓gd_pos (fO_R hW), h24, nI_le_, eq_false (show ¬ sz t ≤ i by omega), ↓reduceIte, ↓bnd2_of (show cal (q + 1) (fun zz => f_X11_redexAt zz 89 (nI i) M) = _ from e), hle0, hk0, nI_eq_, Int32.add_zero, nI_1]
    by_cases r0 : rdl (rws t) i = 0
    · rw [if_pos r0]
      rw [if_neg (fun y => y.1 r0)] at hstep
      rw [hstep] at ih'
      exact ih'
    · rw [if_neg r0]
      by_cases k0 : kd = 0
      · rw [if_pos k0]
        rw [if_pos ⟨r0, Or.inl k0⟩] at hstep
        rw [hstep] at ih'
        exact ih'
      · rw [if_neg k0]
        by_cases k1 : rdl (rws t) i = kd
        · rw [if_pos k1]
          rw [if_pos ⟨r0, Or.inr k1.symm⟩] at hstep
          rw [hstep] at ih'
          exact ih'
        · rw [if_neg k1]
          rw [if_neg (fun y => y.2.elim k0 (fun z => k1 z.symm))] at hstep
          rw [hstep] at ih'
          exact ih'
theorem rx_redexesOf (hW : Wd M) {t : Tm} (ht : isT t) (hR : WrkR M c (rws t)) (k : Nat) {kd : Nat} (hk : kd ≤ 7) : f_X11_redexesOf (k + 2) 89 (nI kd) M = some (nI (crd (rws t) kd (sz t)), M) :=
  ((ge_X11_redexesOf_0 (k + 2) 89 (nI kd) M).trans rfl).trans (rdo_loop hW ht hR k hk (sz t) 0 (by omega))
theorem c_redexes (h : ClS M c H gf T) (hI : ∀ s t, s < 4 → T s = some t → isT t) (k : Nat) (x1 x2 : Int32) :
    (((∀ s, s < 4 → x1 ≠ nI s) ∨ ∀ j, j ≤ 7 → x2 ≠ nI j) → f_X10_redexes (k + 3) 0 x1 x2 M = some (-2, M)) ∧ ∀ s j, s < 4 → j ≤ 7 → x1 = nI s → x2 = nI j →
    (T s = none → f_X10_redexes (k + 3) 0 x1 x2 M = some (-5, M)) ∧ ∀ t, T s = some t → f_X10_redexes (k + 3) 0 x1 x2 M = some (nI (crd (rws t) j (sz t)), M) := by
  have h0 := h
  obtain ⟨hW, hP, hTb, hH, hG, hSl, -⟩ := h
  obtain ⟨q, hq⟩ : ∃ q, q = k + 2 := ⟨_, rfl⟩
  obtain ⟨a1, a2⟩ := c_noSlot (M := M) q x1
  rw [show k + 3 = q + 1 by omega]
  have hO := fO_0 hW
  have une : ((1 : Int32) = 0) = False := eq_false (by decide)
  have ee : f_X10_redexes (q + 1) 0 x1 x2 M = T_X10_redexes_0 (fun v M => some (v, M)) none (q + 1) 0 x1 x2 M := rfl
  rw [ee]
  refine ⟨fun hx => ?_, fun s j hs hj hx1 hx2 => ?_⟩
  · unfold T_X10_redexes_0
    rcases slot_cases x1 with ⟨s, hs, hx1⟩ | hn1
    · have e := a1 s hs hx1
      have hx2 : ∀ j, j ≤ 7 → x2 ≠ nI j := by
        rcases hx with g | g
        · exact absurd hx1 (g s hs)
        · exact g
      by_cases hneg : x2 < 0
      · simp only [↓reduceIte, ↓bnd2_of (show cal (q + 1) (fun zz => f_X10_noSlot zz x1 M) = _ from e), hneg]
      · obtain ⟨i, hi, rfl⟩ := nI_of hneg
        have hge : ¬ i ≤ 7 := fun z => hx2 i z rfl
        simp (disch := omega) only [↓reduceIte, ↓bnd2_of (show cal (q + 1) (fun zz => f_X10_noSlot zz x1 M) = _ from e), hneg, show (7 : Int32) = nI 7 from rfl, nI_le_, hge]
    · have e := a2 hn1
      simp only [↓reduceIte, ↓bnd2_of (show cal (q + 1) (fun zz => f_X10_noSlot zz x1 M) = _ from e), une]
  · have e := a1 s hs hx1
    subst hx1 hx2
    have hA := fA_24 hW hs
    have hS := (slot_at hW hs).1
    have hOs := fO_s hW hs
    have hneg : (nI j < (0 : Int32)) = False := nI_lt0 (by omega)
    refine ⟨fun hN => ?_, fun t hTs => ?_⟩
    · have hz := (hSl s hs).1 hN
      unfold T_X10_redexes_0
      simp (disch := omega) only [↓reduceIte, ↓bnd2_of (show cal (q + 1) (fun zz => f_X10_noSlot zz (nI s) M) = _ from e), hneg, show (7 : Int32) = nI 7 from rfl, nI_le_, eq_true hj, ↓gd_pos hO, ↓bnd_of (r_0_5 hW), ↓gd_pos hA, nI_z, ↓bnd_of hS, ↓gd_pos hOs, hz]
    · have hne := sl_ne h0 hs (hI s t hs hTs) hTs
      have y := c_redexesOf hW (show TOb (25 + 3 * s) by unfold TOb; omega) ((hSl s hs).2 t hTs) k hj
      rw [rws_len, ← hq] at y
      unfold T_X10_redexes_0
      simp (disch := omega) only [↓reduceIte, ↓bnd2_of (show cal (q + 1) (fun zz => f_X10_noSlot zz (nI s) M) = _ from e), hneg, show (7 : Int32) = nI 7 from rfl, nI_le_, eq_true hj, ↓gd_pos hO, ↓bnd_of (r_0_5 hW), ↓gd_pos hA, nI_z, ↓bnd_of hS, ↓gd_pos hOs, hne, ↓bnd2_of (show cal (q + 1) (fun zz => f_X9_redexesOf zz (25 + 3 * s) (nI j) M) = _ from y)]
theorem rx_redexes (h : RfS M c H gf T CI K) (hA : OkA CI H gf T) (hK : 8191 ≤ K) (h8 : M.2.2.1 89 8 = 0) (k : Nat) (x1 x2 : Int32) :
    (((∀ s, s < 4 → x1 ≠ nI s) ∨ ∀ j, j ≤ 7 → x2 ≠ nI j) → f_X11_redexes (k + 205) 89 x1 x2 M = some (-2, wI M 89 0 0)) ∧ ∀ s j, s < 4 → j ≤ 7 → x1 = nI s → x2 = nI j →
    (T s = none → f_X11_redexes (k + 205) 89 x1 x2 M = some (-5, wI M 89 0 0)) ∧ ∀ t, T s = some t → ∃ M1 c1, f_X11_redexes (k + 205) 89 x1 x2 M = some (nI (crd (rws t) j (sz t)), M1) ∧ Fr SSu M M1 ∧ RfS M1 c1 H gf T CI 8191 ∧ WkG M1 c1 CI 0 := by
  have hW := h.1
  have F0 : Fr SSu M (wI M 89 0 0) := Fr.refl.wI (by unfold SSu; omega) _
  have F0' : Fr (fun a k => a = 89 ∧ k = 0) M (wI M 89 0 0) := Fr.refl.wI ⟨rfl, rfl⟩ _
  have h0 : RfS (wI M 89 0 0) c H gf T CI K := h.w F0' (fun a k q => by omega)
  have hW0 := h0.1
  obtain ⟨q, hq⟩ : ∃ q, q = k + 204 := ⟨_, rfl⟩
  obtain ⟨a1, a2⟩ := rx_isSlot (M := wI M 89 0 0) (k + 203) x1
  obtain ⟨i1, i2⟩ := rx_isTo (M := wI M 89 0 0) q (n := 7) (by omega) (hi := 7) (by decide) x2
  rw [show k + 203 + 1 = q by omega] at a1 a2
  rw [show k + 205 = q + 1 by omega]
  have hO := fO_R hW
  have hO0 := fO_R hW0
  have une : ((1 : Int32) = 0) = False := eq_false (by decide)
  have h80 : (wI M 89 0 0).2.2.1 89 8 = 0 := by simp [up2_if]; exact h8
  have ee : f_X11_redexes (q + 1) 89 x1 x2 M = T_X11_redexes_0 (fun v M => some (v, M)) none (q + 1) 89 x1 x2 M := rfl
  rw [ee]
  refine ⟨fun hx => ?_, fun s j hs hj hx1 hx2 => ?_⟩
  · unfold T_X11_redexes_0
    rcases slot_cases x1 with ⟨s, hs, hx1⟩ | hn1
    · have e := a1 s hs hx1
      have e2 := i2 (by
        rcases hx with g | g
        · exact absurd hx1 (g s hs)
        · exact g)
      simp only [↓reduceIte, ↓gd_pos hO, ↓bnd2_of (show cal (q + 1) (fun zz => f_X11_isSlot zz x1 (wI M 89 0 0)) = _ from e), une, ↓bnd2_of (show cal (q + 1) (fun zz => f_X11_isIn zz (Int32.toInt64 x2) 0 (7) (wI M 89 0 0)) = _ from e2)]
    · have e := a2 hn1
      simp only [↓reduceIte, ↓gd_pos hO, ↓bnd2_of (show cal (q + 1) (fun zz => f_X11_isSlot zz x1 (wI M 89 0 0)) = _ from e)]
  · have e := a1 s hs hx1
    have e2 := i1 j hj hx2
    subst hx1 hx2
    refine ⟨fun hN => ?_, fun t hTs => ?_⟩
    · have e3 := rx_void h0 hs hN q
      unfold T_X11_redexes_0
      simp only [↓reduceIte, ↓gd_pos hO, ↓gd_pos hO0, ↓bnd2_of (show cal (q + 1) (fun zz => f_X11_isSlot zz (nI s) (wI M 89 0 0)) = _ from e), une, ↓bnd2_of (show cal (q + 1) (fun zz => f_X11_isIn zz (Int32.toInt64 (nI j)) 0 (7) (wI M 89 0 0)) = _ from e2), ↓bnd2_of (show cal (q + 1) (fun zz => f_X11_isEmpty zz 89 (nI s) (wI M 89 0 0)) = _ from e3)]
    · obtain ⟨ht, h2, hlb⟩ := hA.2.2.2 s t hs hTs
      have e3 := rx_filled h0 hs ht h2 hTs q
      obtain ⟨c1, M1, y1, F1, R1, W1, f1⟩ := rx_takes h0 hA hK (Or.inl h80) hs hTs k
      rw [← hq] at y1
      have R1' : RfS M1 c1 H gf T CI 8191 := ⟨R1.1, R1.2.1, R1.2.2.1, R1.2.2.2.1, R1.2.2.2.2.1, (f1 h80).1⟩
      have y2 := rx_redexesOf R1.1 ht W1 (k + 202) hj
      rw [show k + 202 + 2 = q by omega] at y2
      refine ⟨M1, c1, ?_, F0.trans (F1.mono (fun a k q => by unfold STk at q; unfold SSu SSq; rcases q with q | q; exact Or.inl (Or.inr q); exact Or.inr (Or.inr (Or.inl q)))), R1', WkG_of W1 ⟨ht, h2, hlb⟩⟩
      unfold T_X11_redexes_0
      simp only [↓reduceIte, ↓gd_pos hO, ↓gd_pos hO0, ↓bnd2_of (show cal (q + 1) (fun zz => f_X11_isSlot zz (nI s) (wI M 89 0 0)) = _ from e), une, ↓bnd2_of (show cal (q + 1) (fun zz => f_X11_isIn zz (Int32.toInt64 (nI j)) 0 (7) (wI M 89 0 0)) = _ from e2), ↓bnd2_of (show cal (q + 1) (fun zz => f_X11_isEmpty zz 89 (nI s) (wI M 89 0 0)) = _ from e3), ↓bnd2_of (show cal (q + 1) (fun zz => f_X11_takes zz 89 (nI s) (wI M 89 0 0)) = _ from y1), ↓gd_pos (fO_R R1.1), ↓bnd2_of (show cal (q + 1) (fun zz => f_X11_redexesOf zz 89 (nI j) M1) = _ from y2)]
end RDX
