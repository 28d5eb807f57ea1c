/-! CUT, the call, in the class -/
section CCU
variable {M M1 : Mem} {c c1 : Nat} {H : List (Nat × Fm)} {gf : Fm} {T : Nat → Option Tm}
def SCu (a k : Nat) : Prop := SO 37 a k ∨ SAg a k ∨ a = 48
set_option maxHeartbeats 2000000 in
theorem c_cut (h : ClS M c H gf T) (hTy : ∀ s t, s < 4 → T s = some t → isT t ∧ ∃ y, Wc (Inn M c) H.length (hF H) t 0 gN 0 y) (k : Nat) (x1 x2 x3 x4 : Int32) :
    (((∀ s, s < 4 → x1 ≠ nI s) ∨ (∀ j, j < H.length → x2 ≠ nI j) ∨ (∀ s, s < 4 → x3 ≠ nI s) ∨ (∀ s, s < 4 → x4 ≠ nI s)) → f_X10_cut (k + 6) 0 x1 x2 x3 x4 M = some (-2, M)) ∧ ∀ s1 j s3 s4, s1 < 4 → j < H.length → s3 < 4 → s4 < 4 → x1 = nI s1 → x2 = nI j → x3 = nI s3 → x4 = nI s4 →
    (T s1 = none ∨ T s3 = none → f_X10_cut (k + 6) 0 x1 x2 x3 x4 M = some (-5, M)) ∧ ∀ t s y, T s1 = some t → T s3 = some s → Wc (Inn M c) H.length (hF H) s 0 gN 0 y →
    (y ≠ hF H j → ∃ M1, f_X10_cut (k + 6) 0 x1 x2 x3 x4 M = some (-5, M1) ∧ Fq SCu M M1 ∧ ClS M1 c H gf T) ∧
    (y = hF H j → (200 < sz (hbs j s t 0) → ∃ M1, f_X10_cut (k + 6) 0 x1 x2 x3 x4 M = some (-4, M1) ∧ Fq SCu M M1 ∧ ClS M1 c H gf T) ∧ (sz (hbs j s t 0) ≤ 200 → ∃ M1, f_X10_cut (k + 6) 0 x1 x2 x3 x4 M = some (nI (sz (hbs j s t 0)), M1) ∧ Fq (fun a k => SCu a k ∨ SO (25 + 3 * s4) a k) M M1 ∧ ClS M1 c H gf (ups T s4 (some (hbs j s t 0))))) := by
  have h0 := h
  obtain ⟨hW, hP, hTb, hH, hG, hSl, hHt⟩ := h
  have h6 := hH.2.1
  obtain ⟨q, hq⟩ : ∃ q, q = k + 5 := ⟨_, rfl⟩
  obtain ⟨a1, a2⟩ := c_noSlot (M := M) q x1
  obtain ⟨b1, b2⟩ := c_noSlot (M := M) q x3
  obtain ⟨d1, d2⟩ := c_noSlot (M := M) q x4
  rw [show k + 6 = q + 1 by omega]
  have hO := fO_0 hW
  have hO10 : fO M 10 2 := ⟨by rw [hW.1]; omega, s_10 hW⟩
  have une : ((1 : Int32) = 0) = False := eq_false (by decide)
  have ee : f_X10_cut (q + 1) 0 x1 x2 x3 x4 M = T_X10_cut_0 (fun v M => some (v, M)) none (q + 1) 0 x1 x2 x3 x4 M := rfl
  rw [ee]
  refine ⟨fun hx => ?_, fun s1 j s3 s4 hs1 hj hs3 hs4 hx1 hx2 hx3 hx4 => ?_⟩
  · unfold T_X10_cut_0
    rcases slot_cases x1 with ⟨s1, hs1, hx1⟩ | hn1
    · have e1 := a1 s1 hs1 hx1
      rcases slot_cases x3 with ⟨s3, hs3, hx3⟩ | hn3
      · have e3 := b1 s3 hs3 hx3
        rcases slot_cases x4 with ⟨s4, hs4, hx4⟩ | hn4
        · have e4 := d1 s4 hs4 hx4
          have hx2 : ∀ j, j < H.length → x2 ≠ nI j := by
            rcases hx with g | g | g | g
            · exact absurd hx1 (g s1 hs1)
            · exact g
            · exact absurd hx3 (g s3 hs3)
            · exact absurd hx4 (g s4 hs4)
          by_cases hneg : x2 < 0
          · simp only [↓reduceIte, ↓bnd2_of (show cal (q + 1) (fun zz => f_X10_noSlot zz x1 M) = _ from e1), ↓bnd2_of (show cal (q + 1) (fun zz => f_X10_noSlot zz x3 M) = _ from e3), ↓bnd2_of (show cal (q + 1) (fun zz => f_X10_noSlot zz x4 M) = _ from e4), hneg]
          · obtain ⟨i, hi, rfl⟩ := nI_of hneg
            have hge : ¬ i < H.length := fun z => hx2 i z rfl
            simp (disch := omega) only [↓reduceIte, ↓bnd2_of (show cal (q + 1) (fun zz => f_X10_noSlot zz x1 M) = _ from e1), ↓bnd2_of (show cal (q + 1) (fun zz => f_X10_noSlot zz x3 M) = _ from e3), ↓bnd2_of (show cal (q + 1) (fun zz => f_X10_noSlot zz x4 M) = _ from e4), hneg, ↓gd_pos hO, ↓bnd_of (r_0_3 hW), ↓gd_pos hO10, hH.1, nI_lt_, hge]
        · have e4 := d2 hn4
          simp only [↓reduceIte, ↓bnd2_of (show cal (q + 1) (fun zz => f_X10_noSlot zz x1 M) = _ from e1), ↓bnd2_of (show cal (q + 1) (fun zz => f_X10_noSlot zz x3 M) = _ from e3), ↓bnd2_of (show cal (q + 1) (fun zz => f_X10_noSlot zz x4 M) = _ from e4), une]
      · have e3 := b2 hn3
        simp only [↓reduceIte, ↓bnd2_of (show cal (q + 1) (fun zz => f_X10_noSlot zz x1 M) = _ from e1), ↓bnd2_of (show cal (q + 1) (fun zz => f_X10_noSlot zz x3 M) = _ from e3), une]
    · have e1 := a2 hn1
      simp only [↓reduceIte, ↓bnd2_of (show cal (q + 1) (fun zz => f_X10_noSlot zz x1 M) = _ from e1), une]
  · have e1 := a1 s1 hs1 hx1
    have e3 := b1 s3 hs3 hx3
    have e4 := d1 s4 hs4 hx4
    subst hx1 hx2 hx3 hx4
    have hA := fA_24 hW hs1
    have hS := (slot_at hW hs1).1
    have hOs := fO_s hW hs1
    have hA2 := fA_24 hW hs3
    have hS2 := (slot_at hW hs3).1
    have hOs2 := fO_s hW hs3
    have hneg : (nI j < (0 : Int32)) = False := nI_lt0 (by omega)
    have hlt : (nI j < nI H.length) = True := by rw [nI_lt_ (by omega) (by omega)]; exact eq_true hj
    have emp : ∀ {s : Nat}, s < 4 → T s = none → (M.2.2.1 (25 + 3 * s) 2 = 0) = True := fun hs hN => eq_true ((hSl _ hs).1 hN)
    refine ⟨fun hN => ?_, fun t s y hT1 hT3 hws => ?_⟩
    · unfold T_X10_cut_0
      by_cases qn : T s1 = none
      · simp (disch := omega) only [↓reduceIte, ↓bnd2_of (show cal (q + 1) (fun zz => f_X10_noSlot zz (nI s1) M) = _ from e1), ↓bnd2_of (show cal (q + 1) (fun zz => f_X10_noSlot zz (nI s3) M) = _ from e3), ↓bnd2_of (show cal (q + 1) (fun zz => f_X10_noSlot zz (nI s4) M) = _ from e4), hneg, ↓gd_pos hO, ↓bnd_of (r_0_3 hW), ↓gd_pos hO10, hH.1, hlt, ↓bnd_of (r_0_5 hW), ↓gd_pos hA, nI_z, ↓bnd_of hS, ↓gd_pos hOs, emp hs1 qn]
      · obtain ⟨t, ht⟩ : ∃ t, T s1 = some t := by
          cases hq : T s1 with
          | none => exact absurd hq qn
          | some t => exact ⟨t, rfl⟩
        have hn2 : T s3 = none := hN.resolve_left qn
        have hne := sl_ne h0 hs1 (hTy s1 t hs1 ht).1 ht
        simp (disch := omega) only [↓reduceIte, ↓bnd2_of (show cal (q + 1) (fun zz => f_X10_noSlot zz (nI s1) M) = _ from e1), ↓bnd2_of (show cal (q + 1) (fun zz => f_X10_noSlot zz (nI s3) M) = _ from e3), ↓bnd2_of (show cal (q + 1) (fun zz => f_X10_noSlot zz (nI s4) M) = _ from e4), hneg, ↓gd_pos hO, ↓bnd_of (r_0_3 hW), ↓gd_pos hO10, hH.1, hlt, ↓bnd_of (r_0_5 hW), ↓gd_pos hA, nI_z, ↓bnd_of hS, ↓gd_pos hOs, hne, ↓gd_pos hA2, ↓bnd_of hS2, ↓gd_pos hOs2, emp hs3 hn2]
    · obtain ⟨it, wt, hwt⟩ := hTy s1 t hs1 hT1
      have is := (hTy s3 s hs3 hT3).1
      have hne := sl_ne h0 hs1 it hT1
      have hne2 := sl_ne h0 hs3 is hT3
      obtain ⟨v, M1, y1, F1, C1, v1, v3, -, -⟩ := c_provenBy h0 hs3 hT3 is hws (k + 1)
      rw [show k + 1 + 4 = q by omega] at y1
      have hW1 := C1.1
      have H1 := C1.2.2.2.1
      have y2 := c_formulaOf10 hW1 q H1 hj
      obtain ⟨u, u1, -, u3, u4, -⟩ := H1.2.2 j hj
      rw [show M1.2.2.1 12 j = nI u from u3] at y2
      have hFj : hF H j = H[j].2 := by
        unfold hF
        rw [List.getD_eq_getElem?_getD, List.getElem?_eq_getElem hj]
        rfl
      have hc := hTb.2.1
      have hO101 : fO M1 10 2 := ⟨by rw [hW1.1]; omega, s_10 hW1⟩
      have F1' : Fq SCu M M1 := F1.mono (fun a k q => by unfold SPv at q; unfold SCu; exact Or.inr q)
      refine ⟨fun hy => ⟨M1, ?_, F1', C1⟩, fun hy => ?_⟩
      · have hne3 : (nI v = nI u) = False := eq_false (fun z => hy (by
          have := (nI_eq (by omega) (by omega)).mp z
          rw [← v3, this, hFj]
          exact u4))
        unfold T_X10_cut_0
        simp (disch := omega) only [↓reduceIte, ↓bnd2_of (show cal (q + 1) (fun zz => f_X10_noSlot zz (nI s1) M) = _ from e1), ↓bnd2_of (show cal (q + 1) (fun zz => f_X10_noSlot zz (nI s3) M) = _ from e3), ↓bnd2_of (show cal (q + 1) (fun zz => f_X10_noSlot zz (nI s4) M) = _ from e4), hneg, ↓gd_pos hO, ↓bnd_of (r_0_3 hW), ↓gd_pos hO10, hH.1, hlt, ↓bnd_of (r_0_5 hW), ↓gd_pos hA, nI_z, ↓bnd_of hS, ↓gd_pos hOs, hne, ↓gd_pos hA2, ↓bnd_of hS2, ↓gd_pos hOs2, hne2, ↓bnd2_of (show cal (q + 1) (fun zz => f_X10_provenBy zz 0 (nI s3) M) = _ from y1), ↓gd_pos (fO_0 hW1), ↓bnd_of (r_0_3 hW1), ↓gd_pos hO101, ↓bnd2_of (show cal (q + 1) (fun zz => f_X2_formulaOf zz 10 (nI j) M1) = _ from y2), hne3]
      · have heq3 : (nI v = nI u) = True := eq_true (by
          rw [C1.2.2.1.inj v1 u1 (by rw [v3, u4, hy, hFj])])
        have hTs1 : TOb (25 + 3 * s1) := by unfold TOb; omega
        have hTs3 : TOb (25 + 3 * s3) := by unfold TOb; omega
        have hTs4 : TOb (25 + 3 * s4) := by unfold TOb; omega
        have h37 : TOb 37 := by unfold TOb; omega
        have R1 := (C1.2.2.2.2.2.1 s1 hs1).2 t hT1
        have R3 := (C1.2.2.2.2.2.1 s3 hs3).2 s hT3
        obtain ⟨M2, F2, rf2, res⟩ := c_replace hW1 hTs1 hTs3 (by omega) (by omega) it is R1 R3 (hwt.sco h6 t it).1 (hws.sco h6 s is).1 (show j < 6 by omega) (k + 1)
        rw [show k + 1 + 4 = q by omega] at res
        have C2 : ClS M2 c H gf T := C1.wq F2 (fun a k q => by unfold SO SAg at q; omega) rf2
        have hW2 := C2.1
        have F12 : Fq SCu M M2 := F1'.trans (F2.mono (fun a k q => by unfold SCu; rcases q with q | q; exact Or.inl q; exact Or.inr (Or.inl q)))
        refine ⟨fun hb => ?_, fun hf => ?_⟩
        · rcases res with ⟨g1, -⟩ | ⟨-, y3⟩
          · omega
          · refine ⟨M2, ?_, F12, C2⟩
            unfold T_X10_cut_0
            simp (disch := omega) only [↓reduceIte, ↓bnd2_of (show cal (q + 1) (fun zz => f_X10_noSlot zz (nI s1) M) = _ from e1), ↓bnd2_of (show cal (q + 1) (fun zz => f_X10_noSlot zz (nI s3) M) = _ from e3), ↓bnd2_of (show cal (q + 1) (fun zz => f_X10_noSlot zz (nI s4) M) = _ from e4), hneg, ↓gd_pos hO, ↓bnd_of (r_0_3 hW), ↓gd_pos hO10, hH.1, hlt, ↓bnd_of (r_0_5 hW), ↓gd_pos hA, nI_z, ↓bnd_of hS, ↓gd_pos hOs, hne, ↓gd_pos hA2, ↓bnd_of hS2, ↓gd_pos hOs2, hne2, ↓bnd2_of (show cal (q + 1) (fun zz => f_X10_provenBy zz 0 (nI s3) M) = _ from y1), ↓gd_pos (fO_0 hW1), ↓bnd_of (r_0_3 hW1), ↓gd_pos hO101, ↓bnd2_of (show cal (q + 1) (fun zz => f_X2_formulaOf zz 10 (nI j) M1) = _ from y2), heq3, ↓bnd_of (r_0_8 hW1), ↓bnd_of (r_0_5 hW1), ↓gd_pos (fA_24 hW1 hs1), ↓bnd_of (slot_at hW1 hs1).1, ↓gd_pos (fA_24 hW1 hs3), ↓bnd_of (slot_at hW1 hs3).1, ↓bnd_of (r_0_6 hW1), ↓gd_pos (fO_53 hW1), ↓bnd2_of (show cal (q + 1) (fun zz => f_X7_replace zz 53 (25 + 3 * s1) (nI j) (25 + 3 * s3) 37 M1) = _ from y3)]
        · rcases res with ⟨-, y3, R2⟩ | ⟨g1, -⟩
          · obtain ⟨M3, y4, F3, R4, -⟩ := c_takeOver hW2 hTs4 h37 (by omega) R2 (k + 4)
            rw [show k + 4 + 1 = q by omega] at y4
            have C3 := C2.st hs4 F3 R4
            have hW3 := C3.1
            have g37 : M3.2.2.1 37 2 = nI (sz (hbs j s t 0)) := (F3.int (by unfold SO; omega)).trans R2.1
            refine ⟨M3, ?_, (F12.mono (fun a k q => Or.inl q)).trans (F3.mono (fun a k q => Or.inr q)).q, C3⟩
            unfold T_X10_cut_0
            simp (disch := omega) only [↓reduceIte, ↓bnd2_of (show cal (q + 1) (fun zz => f_X10_noSlot zz (nI s1) M) = _ from e1), ↓bnd2_of (show cal (q + 1) (fun zz => f_X10_noSlot zz (nI s3) M) = _ from e3), ↓bnd2_of (show cal (q + 1) (fun zz => f_X10_noSlot zz (nI s4) M) = _ from e4), hneg, ↓gd_pos hO, ↓bnd_of (r_0_3 hW), ↓gd_pos hO10, hH.1, hlt, ↓bnd_of (r_0_5 hW), ↓gd_pos hA, nI_z, ↓bnd_of hS, ↓gd_pos hOs, hne, ↓gd_pos hA2, ↓bnd_of hS2, ↓gd_pos hOs2, hne2, ↓bnd2_of (show cal (q + 1) (fun zz => f_X10_provenBy zz 0 (nI s3) M) = _ from y1), ↓gd_pos (fO_0 hW1), ↓bnd_of (r_0_3 hW1), ↓gd_pos hO101, ↓bnd2_of (show cal (q + 1) (fun zz => f_X2_formulaOf zz 10 (nI j) M1) = _ from y2), heq3, ↓bnd_of (r_0_8 hW1), ↓bnd_of (r_0_5 hW1), ↓gd_pos (fA_24 hW1 hs1), ↓bnd_of (slot_at hW1 hs1).1, ↓gd_pos (fA_24 hW1 hs3), ↓bnd_of (slot_at hW1 hs3).1, ↓bnd_of (r_0_6 hW1), ↓gd_pos (fO_53 hW1), ↓bnd2_of (show cal (q + 1) (fun zz => f_X7_replace zz 53 (25 + 3 * s1) (nI j) (25 + 3 * s3) 37 M1) = _ from y3), une, ↓gd_pos (fO_0 hW2), ↓bnd_of (r_0_5 hW2), ↓gd_pos (fA_24 hW2 hs4), ↓bnd_of (slot_at hW2 hs4).1, ↓bnd_of (r_0_6 hW2), ↓gd_pos (fO_s hW2 hs4), ↓bnd2_of (show cal (q + 1) (fun zz => f_X9_takeOver zz (25 + 3 * s4) 37 M2) = _ from y4), ↓gd_pos (fO_0 hW3), ↓bnd_of (r_0_6 hW3), ↓gd_pos (fO_37 hW3), g37]
          · omega
end CCU
