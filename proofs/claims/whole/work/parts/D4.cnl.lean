/-! NORMAL, the call, in the class -/
section CNL
variable {M M1 : Mem} {c : Nat} {H : List (Nat × Fm)} {gf : Fm} {T : Nat → Option Tm}
/-- the state is kept, whichever of the two Terms is which -/
theorem ClS.wh {S : Nat → Nat → Prop} (h : ClS M c H gf T) (hF : Fq S M M1) (hS : ∀ a k, S a k → 14 ≤ a ∧ a ≠ 15 ∧ ¬ (25 ≤ a ∧ a ≤ 36)) (hHt : ∃ hr tr, HtC M1 hr tr) : ClS M1 c H gf T := by
  obtain ⟨T1, d1⟩ := tab_mq h.2.2.1 hF (fun a k q => by have := hS _ _ q; omega)
  obtain ⟨hW, hP, -, hH, ⟨v, v1, v2, v3, v4⟩, hSl, -⟩ := h
  refine ⟨hF.Wd hW, fun w hw => (hF.lng (fun q => (hS _ _ q).2.1 rfl)).trans (hP w hw), T1, hH.uq hF (fun a k q => by have := hS _ _ q; omega) (fun i _ => d1 i) (Nat.le_refl _), ⟨v, v1, (hF.int (fun q => by have := hS _ _ q; omega)).trans v2, (d1 v).trans v3, (hF.int (fun q => by have := hS _ _ q; omega)).trans v4⟩, fun s hs => ⟨fun q => ?_, fun t q => ?_⟩, hHt⟩
  · exact (hF.int (fun q => (hS _ _ q).2.2 (by omega))).trans ((hSl s hs).1 q)
  · exact ((hSl s hs).2 t q).mv (hF.int (fun q => (hS _ _ q).2.2 (by omega))) (hF.ints (fun k q => (hS _ _ q).2.2 (by omega))) (hF.ints (fun k q => (hS _ _ q).2.2 (by omega))) (fun i _ => d1 i) (Nat.le_refl _)
theorem c_reduced (hW : Wd M) {hr tr : Nat} (h : HtC M hr tr) (k : Nat) : f_X7_reduced k 53 M = some (hr, M) := by
  show T_X7_reduced_0 (fun v M => some (v, M)) none k 53 M = _
  unfold T_X7_reduced_0
  simp only [↓gd_pos (fO_53 hW), ↓bnd_of h.2.1]
def SNc (a k : Nat) : Prop := SRa a k ∨ a = 88 ∨ (a = 0 ∧ k = 15)
set_option maxHeartbeats 1000000 in
theorem c_normal (h : ClS M c H gf T) (k : Nat) (x : Int32) :
    ((∀ s, s < 4 → x ≠ nI s) → f_X10_normal (k + 6) 0 x M = some (-2, M)) ∧ ∀ s, s < 4 → x = nI s →
    (T s = none → f_X10_normal (k + 6) 0 x M = some (-5, M)) ∧ ∀ t y o, T s = some t → isT t → Wc (Inn M c) H.length (hF H) t 0 gN 0 y → NrmR H.length (hF H) 60 t o →
    (o = none → ∃ M1, f_X10_normal (k + 6) 0 x M = some (-4, M1) ∧ Fq SRa M M1 ∧ ClS M1 c H gf T) ∧
    ∀ r, o = some r → ∃ M1, f_X10_normal (k + 6) 0 x M = some (nI r.1.length, M1) ∧ Fq (fun a k => SNc a k ∨ SO (25 + 3 * s) a k) M M1 ∧ ClS M1 c H gf (ups T s (some r.2)) ∧ TrC M1 r.1 := by
  have h0 := h
  obtain ⟨hW, hP, hTb, hH, hG, hSl, hr, tr, hHt⟩ := h
  obtain ⟨q, hq⟩ : ∃ q, q = k + 5 := ⟨_, rfl⟩
  obtain ⟨nA, nB⟩ := c_noSlot (M := M) q x
  rw [show k + 6 = q + 1 by omega]
  have hO := fO_0 hW
  have une : ((1 : Int32) = 0) = False := eq_false (by decide)
  refine ⟨fun hx => ?_, fun s hs hx => ?_⟩
  · have e := nB hx
    show T_X10_normal_0 (fun v M => some (v, M)) none (q + 1) 0 x M = _
    unfold T_X10_normal_0
    simp only [↓reduceIte, ↓bnd2_of (show cal (q + 1) (fun zz => f_X10_noSlot zz x M) = _ from e), une]
  · have e := nA s hs hx
    subst hx
    have hA := fA_24 hW hs
    have hS := (slot_at hW hs).1
    have hOs := fO_s hW hs
    refine ⟨fun hN => ?_, fun t y o hTs ht hw hnr => ?_⟩
    · have hz := (hSl s hs).1 hN
      show T_X10_normal_0 (fun v M => some (v, M)) none (q + 1) 0 (nI s) M = _
      unfold T_X10_normal_0
      simp (disch := omega) only [↓reduceIte, ↓bnd2_of (show cal (q + 1) (fun zz => f_X10_noSlot zz (nI s) M) = _ from e), ↓gd_pos hO, ↓bnd_of (r_0_5 hW), ↓gd_pos hA, nI_z, ↓bnd_of hS, ↓gd_pos hOs, hz]
    · have hne := sl_ne h0 hs ht hTs
      have hR := (hSl s hs).2 t hTs
      have hTs' : TOb (25 + 3 * s) := by unfold TOb; omega
      have hsz2 := hR.2.1
      rw [rws_len] at hsz2
      obtain ⟨r1, r2⟩ := c_reduceAll k hW hTb hH hHt hTs' (by omega) ht hR hw hnr
      rw [show k + 5 = q by omega] at r1 r2
      refine ⟨fun ho => ?_, fun r ho => ?_⟩
      · obtain ⟨M1, a, b, y1, F1, h1⟩ := r1 ho
        refine ⟨M1, ?_, F1, h0.wh F1 (fun a k q => by unfold SRa SAg SO at q; omega) ⟨a, b, h1⟩⟩
        show T_X10_normal_0 (fun v M => some (v, M)) none (q + 1) 0 (nI s) M = _
        unfold T_X10_normal_0
        simp (disch := omega) only [↓reduceIte, ↓bnd2_of (show cal (q + 1) (fun zz => f_X10_noSlot zz (nI s) M) = _ from e), ↓gd_pos hO, ↓bnd_of (r_0_5 hW), ↓gd_pos hA, nI_z, ↓bnd_of hS, ↓gd_pos hOs, hne, ↓bnd_of (r_0_8 hW), ↓bnd_of (r_0_13 hW), ↓gd_pos (fO_53 hW), ↓bnd2_of (show cal (q + 1) (fun zz => f_X7_reduceAll zz 53 (25 + 3 * s) 87 M) = _ from y1), show ((0 : Int32) ≤ -4) = False from eq_false (by decide)]
      · obtain ⟨M1, a, b, y1, F1, h1, R1, K1⟩ := r2 r ho
        rw [ho] at hnr
        obtain ⟨a1, a2, a3, a4, a5, a6⟩ := hnr.ok 60 ht hsz2 hw
        have C1 := h0.wh F1 (fun a k q => by unfold SRa SAg SO at q; omega) ⟨a, b, h1⟩
        have hW1 := C1.1
        have hTa : TOb a := by unfold TOb; have := h1.1; omega
        have y2 := c_reduced hW1 h1 q
        obtain ⟨M2, y3, F2, R2, -⟩ := c_takeOver hW1 hTs' hTa (by have := h1.1; omega) R1 (k + 4)
        rw [show k + 4 + 1 = q by omega] at y3
        have C2 := C1.st hs F2 R2
        have hW2 := C2.1
        have hC : fC M2 87 0 88 0 60 (q + 1) := ⟨by omega, by rw [hW2.1]; omega, by rw [hW2.1]; omega, 60, 60, s_87 hW2, s_88 hW2, by decide, by decide, by decide, by decide, by decide⟩
        obtain ⟨M3, hM3⟩ : ∃ M3, M3 = cpM M2 87 0 88 0 60 := ⟨_, rfl⟩
        have F3 : Fr (fun a _ => a = 88) M2 M3 := by
          rw [hM3]
          exact ⟨rfl, rfl, rfl, fun a k ha => ⟨if_neg ha, rfl⟩⟩
        have F4 : Fr (fun a k => a = 0 ∧ k = 15) M3 (wI M3 0 15 (nI r.1.length)) := Fr.refl.wI ⟨rfl, rfl⟩ _
        have F34 : Fr (fun a k => a = 88 ∨ (a = 0 ∧ k = 15)) M2 (wI M3 0 15 (nI r.1.length)) := (F3.mono (fun a k q => Or.inl q)).trans (F4.mono (fun a k q => Or.inr q))
        obtain ⟨T4, d4⟩ := (show TabC M2 c from C2.2.2.1).fr F34 (by omega) (fun k => by omega) (fun k => by omega) (fun k => by omega) (fun k => by omega) (fun k => by omega) (fun k => by omega)
        refine ⟨wI M3 0 15 (nI r.1.length), ?_, ((F1.mono (fun a k q => Or.inl (Or.inl q))).trans (F2.mono (fun a k q => Or.inr q)).q).trans (F34.mono (fun a k q => Or.inl (Or.inr q))).q, C2.mq F34.q (fun a k q => by omega) T4 (fun i _ => d4 i) (Nat.le_refl _) (fun k _ => by rw [F34.2.2.1]), ⟨by simp [up2_if], a4, fun i v hi => ?_⟩⟩
        · show T_X10_normal_0 (fun v M => some (v, M)) none (q + 1) 0 (nI s) M = _
          unfold T_X10_normal_0
          have hk0 : ((0 : Int32) ≤ nI r.1.length) = True := eq_true (by rw [show (0 : Int32) = nI 0 from rfl, nI_le_ (by omega) (by omega)]; omega)
          have hO3 : fO (cpM M2 87 0 88 0 60) 0 10 := by rw [← hM3]; exact fO_0 (F3.Wd hW2)
          simp (disch := omega) only [↓reduceIte, ↓bnd2_of (show cal (q + 1) (fun zz => f_X10_noSlot zz (nI s) M) = _ from e), ↓gd_pos hO, ↓bnd_of (r_0_5 hW), ↓gd_pos hA, nI_z, ↓bnd_of hS, ↓gd_pos hOs, hne, ↓bnd_of (r_0_8 hW), ↓bnd_of (r_0_13 hW), ↓gd_pos (fO_53 hW), ↓bnd2_of (show cal (q + 1) (fun zz => f_X7_reduceAll zz 53 (25 + 3 * s) 87 M) = _ from y1), hk0, ↓gd_pos (fO_0 hW1), ↓bnd_of (r_0_5 hW1), ↓gd_pos (fA_24 hW1 hs), ↓bnd_of (slot_at hW1 hs).1, ↓bnd_of (r_0_8 hW1), ↓gd_pos (fO_53 hW1), ↓bnd2_of (show cal (q + 1) (fun zz => f_X7_reduced zz 53 M1) = _ from y2), ↓gd_pos (fO_s hW1 hs), ↓bnd2_of (show cal (q + 1) (fun zz => f_X9_takeOver zz (25 + 3 * s) a M1) = _ from y3), ↓gd_pos (fO_0 hW2), ↓bnd_of (r_0_13 hW2), ↓bnd_of (r_0_14 hW2), ↓gd_pos hC, ↓gd_pos hO3, hM3]
        · have hlt : i < r.1.length := (List.getElem?_eq_some_iff.mp hi).1
          have e5 : (wI M3 0 15 (nI r.1.length)).2.2.1 88 i = M2.2.2.1 87 i := by
            rw [hM3]
            simp only [up2_if, Nat.reduceEqDiff, false_and, if_false]
            show (if (88 : Nat) = 88 then va_cpy (M2.2.2.1 87) (M2.2.2.1 88) (0 : Int32).toNatClampNeg (0 : Int32).toNatClampNeg (60 : Int32).toNatClampNeg i else M2.2.2.1 88 i) = _
            rw [if_pos rfl]
            unfold va_cpy
            rw [show (0 : Int32).toNatClampNeg = 0 from rfl, show (60 : Int32).toNatClampNeg = 60 from rfl, if_pos (by omega), show 0 + (i - 0) = i by omega]
          rw [e5, F2.int (by unfold SO; omega)]
          exact K1 i v hi
end CNL
