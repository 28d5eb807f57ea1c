/-! EQUAL and REDEXES, the calls -/
section EQC
variable {M M1 : Mem} {c c1 : Nat} {H : List (Nat × Fm)} {gf : Fm} {T : Nat → Option Tm} {CI : Fm → Prop} {K : Nat}
theorem c_equal (h : ClS M c H gf T) (hO2 : ∀ s t, s < 4 → T s = some t → isT t ∧ nmL (rws t)) (k : Nat) (x1 x2 : Int32) :
    ((∀ s, s < 4 → x1 ≠ nI s) → f_X10_equal (k + 1) 0 x1 x2 M = some (-2, M)) ∧ ∀ s1, s1 < 4 → x1 = nI s1 →
    ((∀ s, s < 4 → x2 ≠ nI s) → f_X10_equal (k + 1) 0 x1 x2 M = some (-2, M)) ∧ ∀ s2, s2 < 4 → x2 = nI s2 →
    (T s1 = none ∨ T s2 = none → f_X10_equal (k + 1) 0 x1 x2 M = some (-5, M)) ∧ ∀ t1 t2, T s1 = some t1 → T s2 = some t2 →
    (rws t1 = rws t2 → f_X10_equal (k + 1) 0 x1 x2 M = some (1, M)) ∧ (rws t1 ≠ rws t2 → f_X10_equal (k + 1) 0 x1 x2 M = some (0, M)) := by
  have h0 := h
  obtain ⟨hW, hP, hTb, hH, hG, hSl, -⟩ := h
  obtain ⟨a1, a2⟩ := c_noSlot (M := M) k x1
  obtain ⟨b1, b2⟩ := c_noSlot (M := M) k x2
  have hO := fO_0 hW
  have une : ((1 : Int32) = 0) = False := eq_false (by decide)
  have ee : f_X10_equal (k + 1) 0 x1 x2 M = T_X10_equal_0 (fun v M => some (v, M)) none (k + 1) 0 x1 x2 M := rfl
  rw [ee]
  refine ⟨fun hx => ?_, fun s1 hs1 hx1 => ⟨fun hx => ?_, fun s2 hs2 hx2 => ?_⟩⟩
  · have e := a2 hx
    unfold T_X10_equal_0
    simp only [↓reduceIte, ↓bnd2_of (show cal (k + 1) (fun zz => f_X10_noSlot zz x1 M) = _ from e), une]
  · have e := a1 s1 hs1 hx1
    have e2 := b2 hx
    unfold T_X10_equal_0
    simp only [↓reduceIte, ↓bnd2_of (show cal (k + 1) (fun zz => f_X10_noSlot zz x1 M) = _ from e), ↓bnd2_of (show cal (k + 1) (fun zz => f_X10_noSlot zz x2 M) = _ from e2), une]
  · have e := a1 s1 hs1 hx1
    have e2 := b1 s2 hs2 hx2
    subst hx1 hx2
    have hA := fA_24 hW hs1
    have hS := (slot_at hW hs1).1
    have hOs := fO_s hW hs1
    have hA2 := fA_24 hW hs2
    have hS2 := (slot_at hW hs2).1
    have hOs2 := fO_s hW hs2
    have emp : ∀ {s : Nat}, s < 4 → T s = none → (M.2.2.1 (25 + 3 * s) 2 = 0) = True := fun hs hN => eq_true ((hSl _ hs).1 hN)
    refine ⟨fun hN => ?_, fun t1 t2 hT1 hT2 => ?_⟩
    · unfold T_X10_equal_0
      by_cases q : T s1 = none
      · simp (disch := omega) only [↓reduceIte, ↓bnd2_of (show cal (k + 1) (fun zz => f_X10_noSlot zz (nI s1) M) = _ from e), ↓bnd2_of (show cal (k + 1) (fun zz => f_X10_noSlot zz (nI s2) M) = _ from e2), ↓gd_pos hO, ↓bnd_of (r_0_5 hW), ↓gd_pos hA, nI_z, ↓bnd_of hS, ↓gd_pos hOs, emp hs1 q]
      · obtain ⟨t, ht⟩ : ∃ t, T s1 = some t := by
          cases hq : T s1 with
          | none => exact absurd hq q
          | some t => exact ⟨t, rfl⟩
        have hn2 : T s2 = none := hN.resolve_left q
        have hne := sl_ne h0 hs1 (hO2 s1 t hs1 ht).1 ht
        simp (disch := omega) only [↓reduceIte, ↓bnd2_of (show cal (k + 1) (fun zz => f_X10_noSlot zz (nI s1) M) = _ from e), ↓bnd2_of (show cal (k + 1) (fun zz => f_X10_noSlot zz (nI s2) M) = _ from e2), ↓gd_pos hO, ↓bnd_of (r_0_5 hW), ↓gd_pos hA, nI_z, ↓bnd_of hS, ↓gd_pos hOs, hne, ↓gd_pos hA2, ↓bnd_of hS2, ↓gd_pos hOs2, emp hs2 hn2]
    · have hne := sl_ne h0 hs1 (hO2 s1 t1 hs1 hT1).1 hT1
      have hne2 := sl_ne h0 hs2 (hO2 s2 t2 hs2 hT2).1 hT2
      obtain ⟨g1, g2⟩ := c_sameAs hW hTb (show TOb (25 + 3 * s1) by unfold TOb; omega) (show TOb (25 + 3 * s2) by unfold TOb; omega) ((hSl s1 hs1).2 t1 hT1) ((hSl s2 hs2).2 t2 hT2) (hO2 s1 t1 hs1 hT1).2 (hO2 s2 t2 hs2 hT2).2 k
      refine ⟨fun hq => ?_, fun hq => ?_⟩
      · have y := g1 hq
        unfold T_X10_equal_0
        simp (disch := omega) only [↓reduceIte, ↓bnd2_of (show cal (k + 1) (fun zz => f_X10_noSlot zz (nI s1) M) = _ from e), ↓bnd2_of (show cal (k + 1) (fun zz => f_X10_noSlot zz (nI s2) M) = _ from e2), ↓gd_pos hO, ↓bnd_of (r_0_5 hW), ↓gd_pos hA, nI_z, ↓bnd_of hS, ↓gd_pos hOs, hne, ↓gd_pos hA2, ↓bnd_of hS2, ↓gd_pos hOs2, hne2, ↓bnd2_of (show cal (k + 1) (fun zz => f_X9_sameAs zz (25 + 3 * s1) (25 + 3 * s2) M) = _ from y), une]
      · have y := g2 hq
        unfold T_X10_equal_0
        simp (disch := omega) only [↓reduceIte, ↓bnd2_of (show cal (k + 1) (fun zz => f_X10_noSlot zz (nI s1) M) = _ from e), ↓bnd2_of (show cal (k + 1) (fun zz => f_X10_noSlot zz (nI s2) M) = _ from e2), ↓gd_pos hO, ↓bnd_of (r_0_5 hW), ↓gd_pos hA, nI_z, ↓bnd_of hS, ↓gd_pos hOs, hne, ↓gd_pos hA2, ↓bnd_of hS2, ↓gd_pos hOs2, hne2, ↓bnd2_of (show cal (k + 1) (fun zz => f_X9_sameAs zz (25 + 3 * s1) (25 + 3 * s2) M) = _ from y)]
theorem eq_loop (hW : Wd M) {s m : Nat} (hs : s < 4) (hm : m ≤ 200) (k : Nat) : ∀ z j, j + z = m → ∀ M1, Fr STr M M1 → M1.2.2.1 89 24 = nI m → (∀ u, u < j → M1.2.2.1 105 u = M.2.2.1 102 (200 * s + u) ∧ M1.2.2.1 106 u = M.2.2.1 103 (200 * s + u)) → ∃ M2, lp (st_X11_equal k) (62, [.ref 89, .int (nI s), .int (nI j)], M1) = lp (st_X11_equal k) (62, [.ref 89, .int (nI s), .int (nI m)], M2) ∧ Fr STr M M2 ∧ M2.2.2.1 89 24 = nI m ∧ ∀ u, u < m → M2.2.2.1 105 u = M.2.2.1 102 (200 * s + u) ∧ M2.2.2.1 106 u = M.2.2.1 103 (200 * s + u) := by
  intro z
  induction z with
  | zero =>
    intro j hj M1 hF h24 hu
    have e : j = m := by omega
    subst e
    exact ⟨M1, rfl, hF, h24, hu⟩
  | succ z ih =>
    intro j hj M1 hF h24 hu
    have hW1 := hF.Wd hW
    have hA5 := fA_R hW1 (a := 105) (by omega) (s_105 hW1) (show j < 400 by omega) (by omega)
    have hA6 := fA_R hW1 (a := 106) (by omega) (s_106 hW1) (show j < 400 by omega) (by omega)
    have hA2 := fA_R hW1 (a := 102) (by omega) (s_102 hW1) (show 200 * s + j < 800 by omega) (by omega)
    have hA3 := fA_R hW1 (a := 103) (by omega) (s_103 hW1) (show 200 * s + j < 800 by omega) (by omega)
    have i2 : M1.2.2.1 102 (200 * s + j) = M.2.2.1 102 (200 * s + j) := hF.int (by unfold STr; omega)
    have i3 : M1.2.2.1 103 (200 * s + j) = M.2.2.1 103 (200 * s + j) := hF.int (by unfold STr; omega)
    obtain ⟨M2, e2, F2, g2, u2⟩ := ih (j + 1) (by omega) (wI (wI M1 105 j (M.2.2.1 102 (200 * s + j))) 106 j (M.2.2.1 103 (200 * s + j))) ((hF.wI (by unfold STr; omega) _).wI (by unfold STr; omega) _) (by simp [up2_if, h24]) (fun u hu2 => by
      by_cases q : u = j
      · subst q
        exact ⟨by simp [up2_if], by simp [up2_if]⟩
      · have := hu u (by omega)
        exact ⟨by simp [up2_if, q, this.1], by simp [up2_if, q, this.2]⟩)
    refine ⟨M2, Eq.trans ?_ e2, F2, g2, u2⟩
    refine (ge_X11_equal_62 k 89 (nI s) (nI j) M1).trans ?_
    unfold T_X11_equal_62
    have e200 : (200 : Int32) * nI s + nI j = nI (200 * s + j) := by rw [show (200 : Int32) = nI 200 from rfl, nI_mul, nI_add]
    simp (disch := omega) only [↓gd_pos (fO_R hW1), h24, nI_le_, eq_false (show ¬ m ≤ j by omega), ↓reduceIte, ↓bnd_of (r_89_20 hW1), ↓bnd_of (r_89_21 hW1), ↓bnd_of (r_89_17 hW1), ↓bnd_of (r_89_18 hW1), e200, ↓gd_pos hA5, ↓gd_pos hA6, ↓gd_pos hA2, ↓gd_pos hA3, nI_z, i2, nI_1, up2_if, Nat.reduceEqDiff, false_and, if_false, i3]
def SEq (a k : Nat) : Prop := SSu a k ∨ SKb a k
set_option maxHeartbeats 1000000 in
theorem rx_equal (h : RfS M c H gf T CI K) (hA : OkA CI H gf T) (hK : 8191 ≤ K) (h8 : M.2.2.1 89 8 = 0) (hO2 : ∀ s t, s < 4 → T s = some t → nmL (rws t)) (k : Nat) (x1 x2 : Int32) :
    ((∀ s, s < 4 → x1 ≠ nI s) → f_X11_equal (k + 205) 89 x1 x2 M = some (-2, wI M 89 0 0)) ∧ ∀ s1, s1 < 4 → x1 = nI s1 →
    ((∀ s, s < 4 → x2 ≠ nI s) → f_X11_equal (k + 205) 89 x1 x2 M = some (-2, wI M 89 0 0)) ∧ ∀ s2, s2 < 4 → x2 = nI s2 →
    (T s1 = none ∨ T s2 = none → f_X11_equal (k + 205) 89 x1 x2 M = some (-5, wI M 89 0 0)) ∧ ∀ t1 t2, T s1 = some t1 → T s2 = some t2 → ∃ M1 c1, Fr SEq M M1 ∧ RfS M1 c1 H gf T CI 8191 ∧ WkG M1 c1 CI 0 ∧
    (rws t1 = rws t2 → f_X11_equal (k + 205) 89 x1 x2 M = some (1, M1)) ∧ (rws t1 ≠ rws t2 → f_X11_equal (k + 205) 89 x1 x2 M = some (0, M1)) := by
  have hW := h.1
  have F0 : Fr SEq M (wI M 89 0 0) := Fr.refl.wI (by unfold SEq SSu; omega) _
  have F0' : Fr (fun a k => a = 89 ∧ k = 0) M (wI M 89 0 0) := Fr.refl.wI ⟨rfl, rfl⟩ _
  have h0 : RfS (wI M 89 0 0) c H gf T CI K := h.w F0' (fun a k q => by omega)
  have hW0 := h0.1
  obtain ⟨q, hq⟩ : ∃ q, q = k + 204 := ⟨_, rfl⟩
  obtain ⟨a1, a2⟩ := rx_isSlot (M := wI M 89 0 0) (k + 203) x1
  obtain ⟨b1, b2⟩ := rx_isSlot (M := wI M 89 0 0) (k + 203) x2
  rw [show k + 203 + 1 = q by omega] at a1 a2 b1 b2
  rw [show k + 205 = q + 1 by omega]
  have hO := fO_R hW
  have hO0 := fO_R hW0
  have une : ((1 : Int32) = 0) = False := eq_false (by decide)
  have h80 : (wI M 89 0 0).2.2.1 89 8 = 0 := by simp [up2_if]; exact h8
  have ee := ge_X11_equal_0 (q + 1) 89 x1 x2 M
  refine ⟨fun hx => ?_, fun s1 hs1 hx1 => ⟨fun hx => ?_, fun s2 hs2 hx2 => ?_⟩⟩
  · have e := a2 hx
    refine ee.trans ?_
    unfold T_X11_equal_0
    simp only [↓reduceIte, ↓gd_pos hO, ↓bnd2_of (show cal (q + 1) (fun zz => f_X11_isSlot zz x1 (wI M 89 0 0)) = _ from e)]
  · have e := a1 s1 hs1 hx1
    have e2 := b2 hx
    refine ee.trans ?_
    unfold T_X11_equal_0
    simp only [↓reduceIte, ↓gd_pos hO, ↓bnd2_of (show cal (q + 1) (fun zz => f_X11_isSlot zz x1 (wI M 89 0 0)) = _ from e), une, ↓bnd2_of (show cal (q + 1) (fun zz => f_X11_isSlot zz x2 (wI M 89 0 0)) = _ from e2)]
  · have e := a1 s1 hs1 hx1
    have e2 := b1 s2 hs2 hx2
    subst hx1 hx2
    refine ⟨fun hN => ?_, fun t1 t2 hT1 hT2 => ?_⟩
    · refine ee.trans ?_
      unfold T_X11_equal_0
      by_cases qn : T s1 = none
      · have e3 := rx_void h0 hs1 qn q
        simp only [↓reduceIte, ↓gd_pos hO, ↓gd_pos hO0, ↓bnd2_of (show cal (q + 1) (fun zz => f_X11_isSlot zz (nI s1) (wI M 89 0 0)) = _ from e), une, ↓bnd2_of (show cal (q + 1) (fun zz => f_X11_isSlot zz (nI s2) (wI M 89 0 0)) = _ from e2), ↓bnd2_of (show cal (q + 1) (fun zz => f_X11_isEmpty zz 89 (nI s1) (wI M 89 0 0)) = _ from e3)]
      · obtain ⟨t, ht⟩ : ∃ t, T s1 = some t := by
          cases hq : T s1 with
          | none => exact absurd hq qn
          | some t => exact ⟨t, rfl⟩
        obtain ⟨o1, o2, -⟩ := hA.2.2.2 s1 t hs1 ht
        have e3 := rx_filled h0 hs1 o1 o2 ht q
        have e4 := rx_void h0 hs2 (hN.resolve_left qn) q
        simp only [↓reduceIte, ↓gd_pos hO, ↓gd_pos hO0, ↓bnd2_of (show cal (q + 1) (fun zz => f_X11_isSlot zz (nI s1) (wI M 89 0 0)) = _ from e), une, ↓bnd2_of (show cal (q + 1) (fun zz => f_X11_isSlot zz (nI s2) (wI M 89 0 0)) = _ from e2), ↓bnd2_of (show cal (q + 1) (fun zz => f_X11_isEmpty zz 89 (nI s1) (wI M 89 0 0)) = _ from e3), ↓bnd2_of (show cal (q + 1) (fun zz => f_X11_isEmpty zz 89 (nI s2) (wI M 89 0 0)) = _ from e4)]
    · obtain ⟨o1, o2, o3⟩ := hA.2.2.2 s1 t1 hs1 hT1
      obtain ⟨p1, p2, p3⟩ := hA.2.2.2 s2 t2 hs2 hT2
      have e3 := rx_filled h0 hs1 o1 o2 hT1 q
      have e4 := rx_filled h0 hs2 p1 p2 hT2 q
      obtain ⟨c1, M1, y1, F1, R1, W1, f1⟩ := rx_takes h0 hA hK (Or.inl h80) hs1 hT1 k
      rw [show k + 204 = q by omega] at y1
      have R1' : RfS M1 c1 H gf T CI 8191 := ⟨R1.1, R1.2.1, R1.2.2.1, R1.2.2.2.1, R1.2.2.2.2.1, (f1 h80).1⟩
      obtain ⟨M2, y2, F2, H2⟩ := rx_keepsBeside R1.1 W1 (by rw [rws_len]; exact o2) q
      have R2 := R1'.w F2 (fun a k q => by unfold SKb at q; omega)
      have hW2 := R2.1
      obtain ⟨g1, g2⟩ := (R2.2.2.2.2.1 s2 hs2).2 t2 hT2
      obtain ⟨M3, y3, F3, g24, u3⟩ := eq_loop hW2 hs2 p2 (q + 1) (sz t2) 0 (by omega) (wI M2 89 24 (nI (sz t2))) (Fr.refl.wI (by unfold STr; omega) _) (by simp [up2_if]) (fun u hu => by omega)
      have R3 := R2.w F3 (fun a k q => by unfold STr at q; omega)
      have hW3 := R3.1
      obtain ⟨-, d3⟩ := tabR_mv R2.2.1 F3 (by unfold STr; omega) (fun a k q => by unfold STr at q; omega)
      have W3 : WrkR M3 c1 (rws t2) := ⟨g24, by rw [rws_len]; omega, g2.1, fun i nd hi => by
        obtain ⟨b1, b2⟩ := g2.2 i nd hi
        have := u3 i (opl_of hi).2.2
        rw [Nat.zero_add, this.1, this.2]
        exact ⟨b1, b2.mv (fun j _ => d3 j) (Nat.le_refl _)⟩⟩
      have H3 : ThR M3 c1 (rws t1) := H2.mv F3 (fun a k q => by unfold STr at q; unfold SKb; omega) (fun i _ => d3 i) (Nat.le_refl _)
      obtain ⟨i1, i2⟩ := rx_isThen hW3 R3.2.1 W3 H3 (hO2 s2 t2 hs2 hT2) (hO2 s1 t1 hs1 hT1) q
      have F01 : Fr SEq M M3 := (((F0.trans ((F1.mono (fun a k q => by unfold STk at q; unfold SSu SSq; rcases q with q | q; exact Or.inl (Or.inr q); exact Or.inr (Or.inr (Or.inl q)))).mono (fun a k q => Or.inl q))).trans (F2.mono (fun a k q => Or.inr q)))).trans (F3.mono (fun a k q => Or.inl (Or.inr (Or.inr (Or.inl q)))))
      have hA4 := fA_R hW2 (a := 104) (by omega) (s_104 hW2) hs2 (by omega)
      have go : f_X11_equal (q + 1) 89 (nI s1) (nI s2) M = lp (st_X11_equal (q + 1)) (62, [.ref 89, .int (nI s2), .int (nI (sz t2))], M3) := by
        rw [← y3]
        refine ee.trans ?_
        unfold T_X11_equal_0
        simp (disch := omega) only [↓reduceIte, ↓gd_pos hO, ↓gd_pos hO0, ↓bnd2_of (show cal (q + 1) (fun zz => f_X11_isSlot zz (nI s1) (wI M 89 0 0)) = _ from e), une, ↓bnd2_of (show cal (q + 1) (fun zz => f_X11_isSlot zz (nI s2) (wI M 89 0 0)) = _ from e2), ↓bnd2_of (show cal (q + 1) (fun zz => f_X11_isEmpty zz 89 (nI s1) (wI M 89 0 0)) = _ from e3), ↓bnd2_of (show cal (q + 1) (fun zz => f_X11_isEmpty zz 89 (nI s2) (wI M 89 0 0)) = _ from e4), ↓bnd2_of (show cal (q + 1) (fun zz => f_X11_takes zz 89 (nI s1) (wI M 89 0 0)) = _ from y1), ↓gd_pos (fO_R R1.1), ↓bnd2_of (show cal (q + 1) (fun zz => f_X11_keepsBeside zz 89 M1) = _ from y2), ↓gd_pos (fO_R hW2), ↓bnd_of (r_89_19 hW2), ↓gd_pos hA4, nI_z, g1]
        rfl
      refine ⟨M3, c1, F01, R3, WkG_of W3 ⟨p1, p2, p3⟩, fun hq => ?_, fun hq => ?_⟩
      · have y4 := i1 hq.symm
        rw [go]
        refine (ge_X11_equal_62 (q + 1) 89 (nI s2) (nI (sz t2)) M3).trans ?_
        unfold T_X11_equal_62
        simp (disch := omega) only [↓gd_pos (fO_R hW3), g24, nI_le_, Nat.le_refl, ↓reduceIte, ↓bnd2_of (show cal (q + 1) (fun zz => f_X11_isThen zz 89 M3) = _ from y4), une]
      · have y4 := i2 (fun z => hq z.symm)
        rw [go]
        refine (ge_X11_equal_62 (q + 1) 89 (nI s2) (nI (sz t2)) M3).trans ?_
        unfold T_X11_equal_62
        simp (disch := omega) only [↓gd_pos (fO_R hW3), g24, nI_le_, Nat.le_refl, ↓reduceIte, ↓bnd2_of (show cal (q + 1) (fun zz => f_X11_isThen zz 89 M3) = _ from y4)]
end EQC
