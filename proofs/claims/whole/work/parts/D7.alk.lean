/-! ALIKE, the call, in class and reference -/
section ALK
variable {M M1 : Mem} {c c1 : Nat} {H : List (Nat × Fm)} {gf : Fm} {T : Nat → Option Tm} {CI : Fm → Prop} {K : Nat}
def SAl (a k : Nat) : Prop := SRa a k ∨ SO 37 a k
/-- what both come to -/
def AlO (o1 o2 : Option (List Nat × Tm)) (v : Int32) : Prop := (o1 = none ∧ v = -4) ∨ ∃ r1, o1 = some r1 ∧ ((o2 = none ∧ v = -4) ∨ ∃ r2, o2 = some r2 ∧ ((rws r1.2 = rws r2.2 ∧ v = 1) ∨ (rws r1.2 ≠ rws r2.2 ∧ v = 0)))
theorem AlO.ex (o1 o2 : Option (List Nat × Tm)) : ∃ v, AlO o1 o2 v := by
  cases o1 with
  | none => exact ⟨-4, Or.inl ⟨rfl, rfl⟩⟩
  | some r1 =>
    cases o2 with
    | none => exact ⟨-4, Or.inr ⟨r1, rfl, Or.inl ⟨rfl, rfl⟩⟩⟩
    | some r2 =>
      by_cases q : rws r1.2 = rws r2.2
      · exact ⟨1, Or.inr ⟨r1, rfl, Or.inr ⟨r2, rfl, Or.inl ⟨q, rfl⟩⟩⟩⟩
      · exact ⟨0, Or.inr ⟨r1, rfl, Or.inr ⟨r2, rfl, Or.inr ⟨q, rfl⟩⟩⟩⟩
set_option maxHeartbeats 2000000 in
theorem c_alike (h : ClS M c H gf T) (hTy : ∀ s t, s < 4 → T s = some t → isT t ∧ ∃ y, Wc (Inn M c) H.length (hF H) t 0 gN 0 y) (k : Nat) (x1 x2 : Int32) :
    ((∀ s, s < 4 → x1 ≠ nI s) → f_X10_alike (k + 6) 0 x1 x2 M = some (-2, M)) ∧ ∀ s1, s1 < 4 → x1 = nI s1 →
    ((∀ s, s < 4 → x2 ≠ nI s) → f_X10_alike (k + 6) 0 x1 x2 M = some (-2, M)) ∧ ∀ s2, s2 < 4 → x2 = nI s2 →
    (T s1 = none ∨ T s2 = none → f_X10_alike (k + 6) 0 x1 x2 M = some (-5, M)) ∧ ∀ t1 t2 o1 o2 v, T s1 = some t1 → T s2 = some t2 → NrmR H.length (hF H) 60 t1 o1 → NrmR H.length (hF H) 60 t2 o2 → AlO o1 o2 v → ∃ M1, f_X10_alike (k + 6) 0 x1 x2 M = some (v, M1) ∧ Fq SAl M M1 ∧ ClS M1 c H gf T := by
  have h0 := h
  obtain ⟨hW, hP, hTb, hH, hG, hSl, hr, tr, hHt⟩ := h
  obtain ⟨q, hq⟩ : ∃ q, q = k + 5 := ⟨_, rfl⟩
  obtain ⟨a1, a2⟩ := c_noSlot (M := M) q x1
  obtain ⟨b1, b2⟩ := c_noSlot (M := M) q x2
  rw [show k + 6 = q + 1 by omega]
  have hO := fO_0 hW
  have une : ((1 : Int32) = 0) = False := eq_false (by decide)
  have ee : f_X10_alike (q + 1) 0 x1 x2 M = T_X10_alike_0 (fun v M => some (v, M)) none (q + 1) 0 x1 x2 M := rfl
  rw [ee]
  refine ⟨fun hx => ?_, fun s1 hs1 hx1 => ⟨fun hx => ?_, fun s2 hs2 hx2 => ?_⟩⟩
  · have e := a2 hx
    unfold T_X10_alike_0
    simp only [↓reduceIte, ↓bnd2_of (show cal (q + 1) (fun zz => f_X10_noSlot zz x1 M) = _ from e), une]
  · have e := a1 s1 hs1 hx1
    have e2 := b2 hx
    unfold T_X10_alike_0
    simp only [↓reduceIte, ↓bnd2_of (show cal (q + 1) (fun zz => f_X10_noSlot zz x1 M) = _ from e), ↓bnd2_of (show cal (q + 1) (fun zz => f_X10_noSlot zz x2 M) = _ from e2), une]
  · have e := a1 s1 hs1 hx1
    have e2 := b1 s2 hs2 hx2
    subst hx1 hx2
    have hA := fA_24 hW hs1
    have hS := (slot_at hW hs1).1
    have hOs := fO_s hW hs1
    have hA2 := fA_24 hW hs2
    have hS2 := (slot_at hW hs2).1
    have hOs2 := fO_s hW hs2
    have emp : ∀ {s : Nat}, s < 4 → T s = none → (M.2.2.1 (25 + 3 * s) 2 = 0) = True := fun hs hN => eq_true ((hSl _ hs).1 hN)
    refine ⟨fun hN => ?_, fun t1 t2 o1 o2 v hT1 hT2 hn1 hn2 hv => ?_⟩
    · unfold T_X10_alike_0
      by_cases qn : T s1 = none
      · simp (disch := omega) only [↓reduceIte, ↓bnd2_of (show cal (q + 1) (fun zz => f_X10_noSlot zz (nI s1) M) = _ from e), ↓bnd2_of (show cal (q + 1) (fun zz => f_X10_noSlot zz (nI s2) M) = _ from e2), ↓gd_pos hO, ↓bnd_of (r_0_5 hW), ↓gd_pos hA, nI_z, ↓bnd_of hS, ↓gd_pos hOs, emp hs1 qn]
      · obtain ⟨t, ht⟩ : ∃ t, T s1 = some t := by
          cases hq : T s1 with
          | none => exact absurd hq qn
          | some t => exact ⟨t, rfl⟩
        have hn2 : T s2 = none := hN.resolve_left qn
        have hne := sl_ne h0 hs1 (hTy s1 t hs1 ht).1 ht
        simp (disch := omega) only [↓reduceIte, ↓bnd2_of (show cal (q + 1) (fun zz => f_X10_noSlot zz (nI s1) M) = _ from e), ↓bnd2_of (show cal (q + 1) (fun zz => f_X10_noSlot zz (nI s2) M) = _ from e2), ↓gd_pos hO, ↓bnd_of (r_0_5 hW), ↓gd_pos hA, nI_z, ↓bnd_of hS, ↓gd_pos hOs, hne, ↓gd_pos hA2, ↓bnd_of hS2, ↓gd_pos hOs2, emp hs2 hn2]
    · obtain ⟨i1, w1, hw1⟩ := hTy s1 t1 hs1 hT1
      obtain ⟨i2, w2, hw2⟩ := hTy s2 t2 hs2 hT2
      have hne := sl_ne h0 hs1 i1 hT1
      have hne2 := sl_ne h0 hs2 i2 hT2
      have hTs1 : TOb (25 + 3 * s1) := by unfold TOb; omega
      have hTs2 : TOb (25 + 3 * s2) := by unfold TOb; omega
      have h37 : TOb 37 := by unfold TOb; omega
      have hR1 := (hSl s1 hs1).2 t1 hT1
      have hz1 := hR1.2.1
      rw [rws_len] at hz1
      obtain ⟨p1, p2⟩ := c_reduceAll k hW hTb hH hHt hTs1 (by omega) i1 hR1 hw1 hn1
      rw [show k + 5 = q by omega] at p1 p2
      have n4 : ((0 : Int32) ≤ -4) = False := eq_false (by decide)
      rcases hv with ⟨ho, rfl⟩ | ⟨r1, ho, hv⟩
      · obtain ⟨M1, a, b, y1, F1, g1⟩ := p1 ho
        refine ⟨M1, ?_, F1.mono (fun a k q => Or.inl q), h0.wh F1 (fun a k q => by unfold SRa SAg SO at q; omega) ⟨a, b, g1⟩⟩
        unfold T_X10_alike_0
        simp (disch := omega) only [↓reduceIte, ↓bnd2_of (show cal (q + 1) (fun zz => f_X10_noSlot zz (nI s1) M) = _ from e), ↓bnd2_of (show cal (q + 1) (fun zz => f_X10_noSlot zz (nI s2) M) = _ from e2), ↓gd_pos hO, ↓bnd_of (r_0_5 hW), ↓gd_pos hA, nI_z, ↓bnd_of hS, ↓gd_pos hOs, hne, ↓gd_pos hA2, ↓bnd_of hS2, ↓gd_pos hOs2, hne2, ↓bnd_of (r_0_8 hW), ↓bnd_of (r_0_13 hW), ↓gd_pos (fO_53 hW), ↓bnd2_of (show cal (q + 1) (fun zz => f_X7_reduceAll zz 53 (25 + 3 * s1) 87 M) = _ from y1), n4]
      · obtain ⟨M1, a, b, y1, F1, g1, R1, -⟩ := p2 r1 ho
        rw [ho] at hn1
        obtain ⟨z1, z2, z3, z4, -, -⟩ := hn1.ok 60 i1 hz1 hw1
        have C1 := h0.wh F1 (fun a k q => by unfold SRa SAg SO at q; omega) ⟨a, b, g1⟩
        have hW1 := C1.1
        have hTa : TOb a := by unfold TOb; have := g1.1; omega
        have y2 := c_reduced hW1 g1 q
        obtain ⟨M2, y3, F2, R2, -⟩ := c_takeOver hW1 h37 hTa (by have := g1.1; omega) R1 (k + 4)
        rw [show k + 4 + 1 = q by omega] at y3
        have C2 : ClS M2 c H gf T := C1.wq F2.q (fun a k q => by unfold SO at q; omega) (fun k _ => by rw [F2.2.2.1])
        have hW2 := C2.1
        have g2 : HtC M2 a b := by unfold HtC; rw [F2.2.2.1]; exact g1
        have F12 : Fq SAl M M2 := (F1.mono (fun a k q => Or.inl q)).trans (F2.mono (fun a k q => Or.inr q)).q
        have d12 := dC_fq F12 (fun k q => by unfold SAl SRa SAg SO at q; omega) (fun k q => by unfold SAl SRa SAg SO at q; omega) (fun k q => by unfold SAl SRa SAg SO at q; omega)
        have hw2' : Wc (Inn M2 c) H.length (hF H) t2 0 gN 0 w2 := hw2.imp t2 i2 (fun i z _ _ ⟨v, v1, v2⟩ => ⟨v, v1, by rw [d12]; exact v2⟩)
        have hR2 := (C2.2.2.2.2.2.1 s2 hs2).2 t2 hT2
        have hz2 := hR2.2.1
        rw [rws_len] at hz2
        obtain ⟨p3, p4⟩ := c_reduceAll k hW2 C2.2.2.1 C2.2.2.2.1 g2 hTs2 (by omega) i2 hR2 hw2' hn2
        rw [show k + 5 = q by omega] at p3 p4
        have hk1 : ((0 : Int32) ≤ nI r1.1.length) = True := eq_true (by rw [show (0 : Int32) = nI 0 from rfl, nI_le_ (by omega) (by omega)]; omega)
        rcases hv with ⟨ho2, rfl⟩ | ⟨r2, ho2, hv⟩
        · obtain ⟨M3, a3, b3, y4, F3, g3⟩ := p3 ho2
          refine ⟨M3, ?_, F12.trans (F3.mono (fun a k q => Or.inl q)), C2.wh F3 (fun a k q => by unfold SRa SAg SO at q; omega) ⟨a3, b3, g3⟩⟩
          unfold T_X10_alike_0
          simp (disch := omega) only [↓reduceIte, ↓bnd2_of (show cal (q + 1) (fun zz => f_X10_noSlot zz (nI s1) M) = _ from e), ↓bnd2_of (show cal (q + 1) (fun zz => f_X10_noSlot zz (nI s2) M) = _ from e2), ↓gd_pos hO, ↓bnd_of (r_0_5 hW), ↓gd_pos hA, nI_z, ↓bnd_of hS, ↓gd_pos hOs, hne, ↓gd_pos hA2, ↓bnd_of hS2, ↓gd_pos hOs2, hne2, ↓bnd_of (r_0_8 hW), ↓bnd_of (r_0_13 hW), ↓gd_pos (fO_53 hW), ↓bnd2_of (show cal (q + 1) (fun zz => f_X7_reduceAll zz 53 (25 + 3 * s1) 87 M) = _ from y1), hk1, ↓gd_pos (fO_0 hW1), ↓bnd_of (r_0_6 hW1), ↓bnd_of (r_0_8 hW1), ↓gd_pos (fO_53 hW1), ↓bnd2_of (show cal (q + 1) (fun zz => f_X7_reduced zz 53 M1) = _ from y2), ↓gd_pos (fO_T hW1 h37), ↓bnd2_of (show cal (q + 1) (fun zz => f_X9_takeOver zz 37 a M1) = _ from y3), ↓gd_pos (fO_0 hW2), ↓bnd_of (r_0_8 hW2), ↓bnd_of (r_0_5 hW2), ↓gd_pos (fA_24 hW2 hs2), ↓bnd_of (slot_at hW2 hs2).1, ↓bnd_of (r_0_13 hW2), ↓gd_pos (fO_53 hW2), ↓bnd2_of (show cal (q + 1) (fun zz => f_X7_reduceAll zz 53 (25 + 3 * s2) 87 M2) = _ from y4), n4]
        · obtain ⟨M3, a3, b3, y4, F3, g3, R3, -⟩ := p4 r2 ho2
          rw [ho2] at hn2
          obtain ⟨x1, x2, x3, x4, -, -⟩ := hn2.ok 60 i2 hz2 hw2
          have C3 := C2.wh F3 (fun a k q => by unfold SRa SAg SO at q; omega) ⟨a3, b3, g3⟩
          have hW3 := C3.1
          have d3 := dC_fq F3 (fun k q => by unfold SRa SAg SO at q; omega) (fun k q => by unfold SRa SAg SO at q; omega) (fun k q => by unfold SRa SAg SO at q; omega)
          have R37 : RowC M3 37 c (rws r1.2) := R2.mv (F3.int (by unfold SRa SAg SO; omega)) (F3.ints (fun k => by unfold SRa SAg SO; omega)) (F3.ints (fun k => by unfold SRa SAg SO; omega)) (fun i _ => by rw [d3]) (Nat.le_refl _)
          have hTa3 : TOb a3 := by unfold TOb; have := g3.1; omega
          have y5 := c_reduced hW3 g3 q
          obtain ⟨t1', t2'⟩ := c_sameAs hW3 C3.2.2.1 h37 hTa3 R37 R3 (nmL_of hH.2.1 z1 z2 z3) (nmL_of hH.2.1 x1 x2 x3) q
          have hk2 : ((0 : Int32) ≤ nI r2.1.length) = True := eq_true (by rw [show (0 : Int32) = nI 0 from rfl, nI_le_ (by omega) (by omega)]; omega)
          refine ⟨M3, ?_, F12.trans (F3.mono (fun a k q => Or.inl q)), C3⟩
          unfold T_X10_alike_0
          rcases hv with ⟨hq1, rfl⟩ | ⟨hq1, rfl⟩
          · have y6 := t1' hq1
            simp (disch := omega) only [↓reduceIte, ↓bnd2_of (show cal (q + 1) (fun zz => f_X10_noSlot zz (nI s1) M) = _ from e), ↓bnd2_of (show cal (q + 1) (fun zz => f_X10_noSlot zz (nI s2) M) = _ from e2), ↓gd_pos hO, ↓bnd_of (r_0_5 hW), ↓gd_pos hA, nI_z, ↓bnd_of hS, ↓gd_pos hOs, hne, ↓gd_pos hA2, ↓bnd_of hS2, ↓gd_pos hOs2, hne2, ↓bnd_of (r_0_8 hW), ↓bnd_of (r_0_13 hW), ↓gd_pos (fO_53 hW), ↓bnd2_of (show cal (q + 1) (fun zz => f_X7_reduceAll zz 53 (25 + 3 * s1) 87 M) = _ from y1), hk1, ↓gd_pos (fO_0 hW1), ↓bnd_of (r_0_6 hW1), ↓bnd_of (r_0_8 hW1), ↓gd_pos (fO_53 hW1), ↓bnd2_of (show cal (q + 1) (fun zz => f_X7_reduced zz 53 M1) = _ from y2), ↓gd_pos (fO_T hW1 h37), ↓bnd2_of (show cal (q + 1) (fun zz => f_X9_takeOver zz 37 a M1) = _ from y3), ↓gd_pos (fO_0 hW2), ↓bnd_of (r_0_8 hW2), ↓bnd_of (r_0_5 hW2), ↓gd_pos (fA_24 hW2 hs2), ↓bnd_of (slot_at hW2 hs2).1, ↓bnd_of (r_0_13 hW2), ↓gd_pos (fO_53 hW2), ↓bnd2_of (show cal (q + 1) (fun zz => f_X7_reduceAll zz 53 (25 + 3 * s2) 87 M2) = _ from y4), hk2, ↓gd_pos (fO_0 hW3), ↓bnd_of (r_0_6 hW3), ↓bnd_of (r_0_8 hW3), ↓gd_pos (fO_53 hW3), ↓bnd2_of (show cal (q + 1) (fun zz => f_X7_reduced zz 53 M3) = _ from y5), ↓gd_pos (fO_T hW3 h37), ↓bnd2_of (show cal (q + 1) (fun zz => f_X9_sameAs zz 37 a3 M3) = _ from y6), une]
          · have y6 := t2' hq1
            simp (disch := omega) only [↓reduceIte, ↓bnd2_of (show cal (q + 1) (fun zz => f_X10_noSlot zz (nI s1) M) = _ from e), ↓bnd2_of (show cal (q + 1) (fun zz => f_X10_noSlot zz (nI s2) M) = _ from e2), ↓gd_pos hO, ↓bnd_of (r_0_5 hW), ↓gd_pos hA, nI_z, ↓bnd_of hS, ↓gd_pos hOs, hne, ↓gd_pos hA2, ↓bnd_of hS2, ↓gd_pos hOs2, hne2, ↓bnd_of (r_0_8 hW), ↓bnd_of (r_0_13 hW), ↓gd_pos (fO_53 hW), ↓bnd2_of (show cal (q + 1) (fun zz => f_X7_reduceAll zz 53 (25 + 3 * s1) 87 M) = _ from y1), hk1, ↓gd_pos (fO_0 hW1), ↓bnd_of (r_0_6 hW1), ↓bnd_of (r_0_8 hW1), ↓gd_pos (fO_53 hW1), ↓bnd2_of (show cal (q + 1) (fun zz => f_X7_reduced zz 53 M1) = _ from y2), ↓gd_pos (fO_T hW1 h37), ↓bnd2_of (show cal (q + 1) (fun zz => f_X9_takeOver zz 37 a M1) = _ from y3), ↓gd_pos (fO_0 hW2), ↓bnd_of (r_0_8 hW2), ↓bnd_of (r_0_5 hW2), ↓gd_pos (fA_24 hW2 hs2), ↓bnd_of (slot_at hW2 hs2).1, ↓bnd_of (r_0_13 hW2), ↓gd_pos (fO_53 hW2), ↓bnd2_of (show cal (q + 1) (fun zz => f_X7_reduceAll zz 53 (25 + 3 * s2) 87 M2) = _ from y4), hk2, ↓gd_pos (fO_0 hW3), ↓bnd_of (r_0_6 hW3), ↓bnd_of (r_0_8 hW3), ↓gd_pos (fO_53 hW3), ↓bnd2_of (show cal (q + 1) (fun zz => f_X7_reduced zz 53 M3) = _ from y5), ↓gd_pos (fO_T hW3 h37), ↓bnd2_of (show cal (q + 1) (fun zz => f_X9_sameAs zz 37 a3 M3) = _ from y6)]
end ALK
