/-! SIDE, the call, in class and reference -/
section SID
variable {M M1 : Mem} {c c1 : Nat} {H : List (Nat × Fm)} {gf : Fm} {T : Nat → Option Tm} {CI : Fm → Prop} {K : Nat}
def SPv (a k : Nat) : Prop := SAg a k ∨ a = 48
/-- what a slot's proof proves, in the class -/
theorem c_provenBy (h : ClS M c H gf T) {s : Nat} (hs : s < 4) {t : Tm} {x : Fm} (hTs : T s = some t) (ht : isT t) (hw : Wc (Inn M c) H.length (hF H) t 0 gN 0 x) (k : Nat) : ∃ v M1, f_X10_provenBy (k + 4) 0 (nI s) M = some (nI v, M1) ∧ Fq SPv M M1 ∧ ClS M1 c H gf T ∧ v < c ∧ dC M1 v = x ∧ Ly M1 t 0 0 (-1) 0 1 (fun _ => 0) ∧ Wt (TyQ M1 c) H.length (hF H) t 0 gN 0 x := by
  have h0 := h
  obtain ⟨hW, hP, hTb, hH, hG, hSl, hHt⟩ := h
  have hTs' : TOb (25 + 3 * s) := by unfold TOb; omega
  have hR := (hSl s hs).2 t hTs
  obtain ⟨q, hq⟩ : ∃ q, q = k + 3 := ⟨_, rfl⟩
  have e := (c_noSlot (M := M) q (nI s)).1 s hs rfl
  have hsco := hw.sco hH.2.1 t ht
  obtain ⟨M1, y1, F1, L1, E1, Y1, w1, rf1⟩ := c_arrangeR hW hTs' ht hR hsco.1 k
  rw [← hq] at y1
  have hW1 := F1.Wd hW
  obtain ⟨T1, d1⟩ := tab_mq hTb F1 (fun a k q => by unfold SAg at q; omega)
  have H1 : HyC M1 10 c H := hH.uq F1 (fun a k q => by unfold SAg at q; omega) (fun i _ => d1 i) (Nat.le_refl _)
  have w1' : Wt (fun _ f => Inn M1 c f) H.length (hF H) t 0 gN 0 x := hw.imp t ht (fun i z _ _ ⟨v, v1, v2⟩ => ⟨v, v1, (d1 v).trans v2⟩)
  obtain ⟨c2, M2, B2, B3, res⟩ := c_ask (G := gN) ht L1 T1 H1 E1 Y1 w1 hsco.1 hsco.2 (Or.inr ⟨x, w1'⟩) k
  obtain ⟨rfl, F2⟩ := B3 ⟨x, w1'⟩
  rw [← hq] at res
  have hty : ty (hF H) t 0 gN 0 = .inr x := ty_Wt t ht hw
  rcases res with ⟨e5, -, g2, -⟩ | ⟨z, g2, wt, y2⟩
  · rw [hty] at g2; cases g2
  · rw [hty] at g2
    cases g2
    have hW2 := F2.Wd hW1
    obtain ⟨v, v1, v2, v3⟩ := wt.root t ht
    have y3 := c_typeOf hW2 q (i := 0) (by omega)
    rw [v2] at y3
    have F12 : Fq SPv M M2 := (F1.mono (fun a k q => Or.inl q)).trans (F2.mono (fun a k q => Or.inr q.1)).q
    refine ⟨v, M2, ?_, F12, h0.wq F12 (fun a k q => by unfold SPv SAg at q; omega) (fun k _ => by rw [F2.2.2.1]; exact rf1 53 k (by omega)), v1, v3, B2.ly ht Y1, wt⟩
    rw [show k + 4 = q + 1 by omega]
    show T_X10_provenBy_0 (fun v M => some (v, M)) none (q + 1) 0 (nI s) M = _
    unfold T_X10_provenBy_0
    have y3' : f_X3_typeOf q 40 0 M2 = some (nI v, M2) := y3
    simp (disch := omega) only [↓reduceIte, ↓bnd2_of (show cal (q + 1) (fun zz => f_X10_noSlot zz (nI s) M) = _ from e), ↓gd_pos (fO_0 hW), ↓bnd_of (r_0_7 hW), ↓bnd_of (r_0_5 hW), ↓gd_pos (fA_24 hW hs), nI_z, ↓bnd_of (slot_at hW hs).1, ↓gd_pos (fO_40 hW), ↓bnd2_of (show cal (q + 1) (fun zz => f_X3_arrange zz 40 (25 + 3 * s) M) = _ from y1), ↓gd_pos (fO_0 hW1), ↓bnd_of (r_0_7 hW1), ↓gd_pos (fO_40 hW1), ↓bnd2_of (show cal (q + 1) (fun zz => f_X3_ask zz 40 M1) = _ from y2), ↓gd_pos (fO_0 hW2), ↓bnd_of (r_0_7 hW2), ↓gd_pos (fO_40 hW2), ↓bnd2_of (show cal (q + 1) (fun zz => f_X3_typeOf zz 40 0 M2) = _ from y3')]
/-- and in the reference -/
theorem rx_askedR (h : RfS M c H gf T CI K) (hA : OkA CI H gf T) (hK2 : K ≤ 11000) {t : Tm} {x : Fm} (ht : isT t) (h2 : sz t ≤ 200) (hR : WrkR M c (rws t)) (hw : Wc (OkF CI) H.length (hF H) t 0 gN 0 x) (k : Nat) : ∃ u c1 M1, f_X11_asked (k + 405) 89 M = some (nI u, M1) ∧ Fr SSp M M1 ∧ RfS M1 c1 H gf T CI K ∧ WrkR M1 c1 (rws t) ∧ u < c1 ∧ dR M1 u = x ∧ Wt (TyR M1 c1) H.length (hF H) t 0 gN 0 x ∧ DpR M1 t 0 0 ∧ c ≤ c1 ∧ ∀ i, i < c → dR M1 i = dR M i := by
  have h0 := h
  obtain ⟨hW, hT, hH, hG, hSl, E, hN⟩ := h
  have hwA : Wc (fun f => CI f ∨ ∃ j, j < K ∧ E j = f) H.length (hF H) t 0 gN 0 x := hw.imp t ht (fun i y _ _ q => Or.inl q.1)
  obtain ⟨u, c1, M1, y1, B1, u1, u2, u3, u4, u5, u6, u7⟩ := rx_asked hW hT ht hR hH.s h2 hwA hN (FewR.cap hA.1 hK2) k
  have F1 : Fr SSp M M1 := ((Fr.refl.wI (a := 89) (k := 30) (by unfold SSp; omega) 0).wI (a := 89) (k := 43) (by unfold SSp; omega) 0).trans (B1.1.mono (fun a k q => by unfold SAq at q; unfold SSp; rcases q with q | q; exact Or.inl q; omega))
  exact ⟨u, c1, M1, y1, F1, h0.mv F1 (fun a k q => by unfold SSp SR at q; omega) B1.2.1 B1.2.2.2.2 B1.2.2.1 ⟨E, u3⟩, B1.wr hR, u1, u2, u6, u7, B1.2.2.1, B1.2.2.2.2⟩
/-- which side it comes to -/
def SdO (t : Tm) : Int32 := if ort t = 7 then 0 else if ort t = 8 then 1 else -1
set_option maxHeartbeats 2000000 in
theorem c_side (h : ClS M c H gf T) (k : Nat) (x : Int32) :
    ((∀ s, s < 4 → x ≠ nI s) → f_X10_side (k + 6) 0 x M = some (-2, M)) ∧ ∀ s, s < 4 → x = nI s →
    (T s = none → f_X10_side (k + 6) 0 x M = some (-5, M)) ∧ ∀ t y o, T s = some t → isT t → Wc (Inn M c) H.length (hF H) t 0 gN 0 y → NrmR H.length (hF H) 60 t o →
    (kdf y ≠ 11 → ∃ M1, f_X10_side (k + 6) 0 x M = some (-5, M1) ∧ Fq SAl M M1 ∧ ClS M1 c H gf T) ∧
    (kdf y = 11 → (o = none → ∃ M1, f_X10_side (k + 6) 0 x M = some (-4, M1) ∧ Fq SAl M M1 ∧ ClS M1 c H gf T) ∧ ∀ r, o = some r → ∃ M1, f_X10_side (k + 6) 0 x M = some (SdO r.2, M1) ∧ Fq SAl M M1 ∧ ClS M1 c H gf T) := by
  have h0 := h
  obtain ⟨hW, hP, hTb, hH, hG, hSl, hr, tr, hHt⟩ := h
  obtain ⟨q, hq⟩ : ∃ q, q = k + 5 := ⟨_, rfl⟩
  obtain ⟨nA, nB⟩ := c_noSlot (M := M) q x
  rw [show k + 6 = q + 1 by omega]
  have hO := fO_0 hW
  have une : ((1 : Int32) = 0) = False := eq_false (by decide)
  have ee : f_X10_side (q + 1) 0 x M = T_X10_side_0 (fun v M => some (v, M)) none (q + 1) 0 x M := rfl
  rw [ee]
  refine ⟨fun hx => ?_, fun s hs hx => ?_⟩
  · have e := nB hx
    unfold T_X10_side_0
    simp only [↓reduceIte, ↓bnd2_of (show cal (q + 1) (fun zz => f_X10_noSlot zz x M) = _ from e), une]
  · have e := nA s hs hx
    subst hx
    have hA := fA_24 hW hs
    have hS := (slot_at hW hs).1
    have hOs := fO_s hW hs
    refine ⟨fun hN => ?_, fun t y o hTs ht hw hnr => ?_⟩
    · have hz := (hSl s hs).1 hN
      unfold T_X10_side_0
      simp (disch := omega) only [↓reduceIte, ↓bnd2_of (show cal (q + 1) (fun zz => f_X10_noSlot zz (nI s) M) = _ from e), ↓gd_pos hO, ↓bnd_of (r_0_5 hW), ↓gd_pos hA, nI_z, ↓bnd_of hS, ↓gd_pos hOs, hz]
    · have hne := sl_ne h0 hs ht hTs
      obtain ⟨v, M1, y1, F1, C1, v1, v3, -, -⟩ := c_provenBy h0 hs hTs ht hw (k + 1)
      rw [show k + 1 + 4 = q by omega] at y1
      have hW1 := C1.1
      have hc := hTb.2.1
      have y2 := c_kindOf (c := c) hW1 C1.2.2.1 q v1
      obtain ⟨kd1, kd2, -⟩ := C1.2.2.1.kd v1
      rw [v3] at kd1 kd2
      rw [kd1] at y2
      have hO1 : fO M1 2 1 := ⟨by rw [hW1.1]; omega, s_2 hW1⟩
      have F1' : Fq SAl M M1 := F1.mono (fun a k q => by unfold SPv at q; unfold SAl SRa; rcases q with q | q; exact Or.inl (Or.inl q); exact Or.inl (Or.inr (Or.inl q)))
      have hTs' : TOb (25 + 3 * s) := by unfold TOb; omega
      refine ⟨fun hk => ⟨M1, ?_, F1', C1⟩, fun hk => ?_⟩
      · have hk' : (nI (kdf y) = (11 : Int32)) = False := eq_false (fun z => hk ((nI_eq (b := 11) (by omega) (by omega)).mp z))
        unfold T_X10_side_0
        simp (disch := omega) only [↓reduceIte, ↓bnd2_of (show cal (q + 1) (fun zz => f_X10_noSlot zz (nI s) M) = _ from e), ↓gd_pos hO, ↓bnd_of (r_0_5 hW), ↓gd_pos hA, nI_z, ↓bnd_of hS, ↓gd_pos hOs, hne, ↓bnd_of (r_0_2 hW), ↓bnd2_of (show cal (q + 1) (fun zz => f_X10_provenBy zz 0 (nI s) M) = _ from y1), ↓gd_pos hO1, ↓bnd2_of (show cal (q + 1) (fun zz => f_X1_kindOf zz 2 (nI v) M1) = _ from y2), hk']
      · have hk' : (nI (kdf y) = (11 : Int32)) = True := eq_true (by rw [hk]; rfl)
        obtain ⟨hr1, tr1, hHt1⟩ := C1.2.2.2.2.2.2
        have hR1 := (C1.2.2.2.2.2.1 s hs).2 t hTs
        have d1 := dC_fq F1 (fun k q => by unfold SPv SAg at q; omega) (fun k q => by unfold SPv SAg at q; omega) (fun k q => by unfold SPv SAg at q; omega)
        have hw1 : Wc (Inn M1 c) H.length (hF H) t 0 gN 0 y := hw.imp t ht (fun i z _ _ ⟨v, v1, v2⟩ => ⟨v, v1, by rw [d1]; exact v2⟩)
        have hz2 := hR1.2.1
        rw [rws_len] at hz2
        obtain ⟨p1, p2⟩ := c_reduceAll k hW1 C1.2.2.1 C1.2.2.2.1 hHt1 hTs' (by omega) ht hR1 hw1 hnr
        rw [show k + 5 = q by omega] at p1 p2
        refine ⟨fun ho => ?_, fun r ho => ?_⟩
        · obtain ⟨M2, a, b, y3, F2, g2⟩ := p1 ho
          refine ⟨M2, ?_, F1'.trans (F2.mono (fun a k q => Or.inl q)), C1.wh F2 (fun a k q => by unfold SRa SAg SO at q; omega) ⟨a, b, g2⟩⟩
          unfold T_X10_side_0
          simp (disch := omega) only [↓reduceIte, ↓bnd2_of (show cal (q + 1) (fun zz => f_X10_noSlot zz (nI s) M) = _ from e), ↓gd_pos hO, ↓bnd_of (r_0_5 hW), ↓gd_pos hA, nI_z, ↓bnd_of hS, ↓gd_pos hOs, hne, ↓bnd_of (r_0_2 hW), ↓bnd2_of (show cal (q + 1) (fun zz => f_X10_provenBy zz 0 (nI s) M) = _ from y1), ↓gd_pos hO1, ↓bnd2_of (show cal (q + 1) (fun zz => f_X1_kindOf zz 2 (nI v) M1) = _ from y2), hk', ↓gd_pos (fO_0 hW1), ↓bnd_of (r_0_8 hW1), ↓bnd_of (r_0_5 hW1), ↓gd_pos (fA_24 hW1 hs), ↓bnd_of (slot_at hW1 hs).1, ↓bnd_of (r_0_13 hW1), ↓gd_pos (fO_53 hW1), ↓bnd2_of (show cal (q + 1) (fun zz => f_X7_reduceAll zz 53 (25 + 3 * s) 87 M1) = _ from y3), show ((0 : Int32) ≤ -4) = False from eq_false (by decide)]
        · obtain ⟨M2, a, b, y3, F2, g2, R2, -⟩ := p2 r ho
          rw [ho] at hnr
          obtain ⟨z1, z2, z3, z4, -, -⟩ := hnr.ok 60 ht hz2 hw1
          have C2 := C1.wh F2 (fun a k q => by unfold SRa SAg SO at q; omega) ⟨a, b, g2⟩
          have hW2 := C2.1
          have hTa : TOb a := by unfold TOb; have := g2.1; omega
          have y4 := c_reduced hW2 g2 q
          have y5 := c_opAt hW2 hTa R2 q (i := 0) (sz_pos r.2 z1)
          have y5' : f_X9_opAt q a 0 M2 = some (nI (ort r.2), M2) := y5
          have hk1 : ((0 : Int32) ≤ nI r.1.length) = True := eq_true (by rw [show (0 : Int32) = nI 0 from rfl, nI_le_ (by omega) (by omega)]; omega)
          have hor := R2.2.2.1.at_ (i := 0) (sz_pos r.2 z1)
          have hor : 1 ≤ ort r.2 ∧ ort r.2 ≤ 10 := hor
          refine ⟨M2, ?_, F1'.trans (F2.mono (fun a k q => Or.inl q)), C2⟩
          unfold T_X10_side_0
          simp (disch := omega) only [↓reduceIte, ↓bnd2_of (show cal (q + 1) (fun zz => f_X10_noSlot zz (nI s) M) = _ from e), ↓gd_pos hO, ↓bnd_of (r_0_5 hW), ↓gd_pos hA, nI_z, ↓bnd_of hS, ↓gd_pos hOs, hne, ↓bnd_of (r_0_2 hW), ↓bnd2_of (show cal (q + 1) (fun zz => f_X10_provenBy zz 0 (nI s) M) = _ from y1), ↓gd_pos hO1, ↓bnd2_of (show cal (q + 1) (fun zz => f_X1_kindOf zz 2 (nI v) M1) = _ from y2), hk', ↓gd_pos (fO_0 hW1), ↓bnd_of (r_0_8 hW1), ↓bnd_of (r_0_5 hW1), ↓gd_pos (fA_24 hW1 hs), ↓bnd_of (slot_at hW1 hs).1, ↓bnd_of (r_0_13 hW1), ↓gd_pos (fO_53 hW1), ↓bnd2_of (show cal (q + 1) (fun zz => f_X7_reduceAll zz 53 (25 + 3 * s) 87 M1) = _ from y3), hk1, ↓gd_pos (fO_0 hW2), ↓bnd_of (r_0_8 hW2), ↓gd_pos (fO_53 hW2), ↓bnd2_of (show cal (q + 1) (fun zz => f_X7_reduced zz 53 M2) = _ from y4), ↓gd_pos (fO_T hW2 hTa), ↓bnd2_of (show cal (q + 1) (fun zz => f_X9_opAt zz a 0 M2) = _ from y5'), show (7 : Int32) = nI 7 from rfl, show (8 : Int32) = nI 8 from rfl, nI_eq_]
          unfold SdO
          split
          · rfl
          · split <;> rfl
def SSi (a k : Nat) : Prop := SNz a k ∨ SSu a k
set_option maxHeartbeats 2000000 in
theorem rx_side (h : RfS M c H gf T CI K) (hA : OkA CI H gf T) (hK : 8191 ≤ K) (h8 : M.2.2.1 89 8 = 0) (k : Nat) (x : Int32) :
    ((∀ s, s < 4 → x ≠ nI s) → f_X11_side (k + 408) 89 x M = some (-2, wI M 89 0 0)) ∧ ∀ s, s < 4 → x = nI s →
    (T s = none → f_X11_side (k + 408) 89 x M = some (-5, wI M 89 0 0)) ∧ ∀ t y o, T s = some t → Wc (OkF CI) H.length (hF H) t 0 gN 0 y → NrmR H.length (hF H) 60 t o →
    (kdf y ≠ 11 → ∃ M1 c1, f_X11_side (k + 408) 89 x M = some (-5, M1) ∧ Fr SSi M M1 ∧ RfS M1 c1 H gf T CI 8191 ∧ WkG M1 c1 CI 0) ∧
    (kdf y = 11 → (o = none → ∃ M1 c1, f_X11_side (k + 408) 89 x M = some (-4, M1) ∧ Fr SSi M M1 ∧ RfS M1 c1 H gf T CI 8191 ∧ WkG M1 c1 CI 0) ∧ ∀ r, o = some r → ∃ M1 c1, f_X11_side (k + 408) 89 x M = some (SdO r.2, M1) ∧ Fr SSi M M1 ∧ RfS M1 c1 H gf T CI 8191 ∧ WkG M1 c1 CI 0) := by
  have hW := h.1
  have F0 : Fr SSi M (wI M 89 0 0) := Fr.refl.wI (by unfold SSi SSu; omega) _
  have F0' : Fr (fun a k => a = 89 ∧ k = 0) M (wI M 89 0 0) := Fr.refl.wI ⟨rfl, rfl⟩ _
  have h0 : RfS (wI M 89 0 0) c H gf T CI K := h.w F0' (fun a k q => by omega)
  have hW0 := h0.1
  obtain ⟨q, hq⟩ : ∃ q, q = k + 407 := ⟨_, rfl⟩
  obtain ⟨nA, nB⟩ := rx_isSlot (M := wI M 89 0 0) (k + 406) x
  rw [show k + 406 + 1 = q by omega] at nA nB
  rw [show k + 408 = q + 1 by omega]
  have hO := fO_R hW
  have hO0 := fO_R hW0
  have une : ((1 : Int32) = 0) = False := eq_false (by decide)
  have h80 : (wI M 89 0 0).2.2.1 89 8 = 0 := by simp [up2_if]; exact h8
  have ee : f_X11_side (q + 1) 89 x M = T_X11_side_0 (fun v M => some (v, M)) none (q + 1) 89 x M := rfl
  rw [ee]
  refine ⟨fun hx => ?_, fun s hs hx => ?_⟩
  · have e := nB hx
    unfold T_X11_side_0
    simp only [↓reduceIte, ↓gd_pos hO, ↓bnd2_of (show cal (q + 1) (fun zz => f_X11_isSlot zz x (wI M 89 0 0)) = _ from e)]
  · have e := nA s hs hx
    subst hx
    refine ⟨fun hN => ?_, fun t y o hTs hw hnr => ?_⟩
    · have e2 := rx_void h0 hs hN q
      unfold T_X11_side_0
      simp only [↓reduceIte, ↓gd_pos hO, ↓gd_pos hO0, ↓bnd2_of (show cal (q + 1) (fun zz => f_X11_isSlot zz (nI s) (wI M 89 0 0)) = _ from e), une, ↓bnd2_of (show cal (q + 1) (fun zz => f_X11_isEmpty zz 89 (nI s) (wI M 89 0 0)) = _ from e2)]
    · obtain ⟨ht, h2, hlb⟩ := hA.2.2.2 s t hs hTs
      have e2 := rx_filled h0 hs ht h2 hTs q
      obtain ⟨c1, M1, y1, F1, R1, W1, f1⟩ := rx_takes h0 hA hK (Or.inl h80) hs hTs (k + 203)
      rw [show k + 203 + 204 = q by omega] at y1
      have R1' : RfS M1 c1 H gf T CI 8191 := ⟨R1.1, R1.2.1, R1.2.2.1, R1.2.2.2.1, R1.2.2.2.2.1, (f1 h80).1⟩
      have h81 : M1.2.2.1 89 8 = 0 := (F1.int (by unfold STk STd STr; omega)).trans h80
      obtain ⟨u, c2, M2, y2, F2, R2, W2, u1, u2, -, -, -, -⟩ := rx_askedR R1' hA (by omega) ht h2 W1 hw (k + 2)
      rw [show k + 2 + 405 = q by omega] at y2
      have h82 : M2.2.2.1 89 8 = 0 := (F2.int (by unfold SSp SR; omega)).trans h81
      have hW1 := R1.1
      have hW2 := R2.1
      have F02 : Fr SSi M M2 := (F0.trans (F1.mono (fun a k q => by unfold STk at q; unfold SSi SSu SSq; rcases q with q | q; exact Or.inr (Or.inl (Or.inr q)); exact Or.inr (Or.inr (Or.inr (Or.inl q)))))).trans (F2.mono (fun a k q => Or.inr (Or.inl (Or.inl q))))
      obtain ⟨kd1, kd2, -⟩ := R2.2.1.kd u1
      rw [u2] at kd1 kd2
      have hc2 := R2.2.1.2.1
      have hA90 := fA_R hW2 (a := 90) (by omega) (s_90 hW2) (show u < 16384 by omega) (by omega)
      refine ⟨fun hk => ⟨M2, c2, ?_, F02, R2, WkG_of W2 ⟨ht, h2, hlb⟩⟩, fun hk => ?_⟩
      · have hk' : (nI (kdf y) = (11 : Int32)) = False := eq_false (fun z => hk ((nI_eq (b := 11) (by omega) (by omega)).mp z))
        unfold T_X11_side_0
        simp (disch := omega) only [↓reduceIte, ↓gd_pos hO, ↓gd_pos hO0, ↓bnd2_of (show cal (q + 1) (fun zz => f_X11_isSlot zz (nI s) (wI M 89 0 0)) = _ from e), une, ↓bnd2_of (show cal (q + 1) (fun zz => f_X11_isEmpty zz 89 (nI s) (wI M 89 0 0)) = _ from e2), ↓bnd2_of (show cal (q + 1) (fun zz => f_X11_takes zz 89 (nI s) (wI M 89 0 0)) = _ from y1), ↓gd_pos (fO_R hW1), ↓bnd_of (r_89_1 hW1), ↓bnd2_of (show cal (q + 1) (fun zz => f_X11_asked zz 89 M1) = _ from y2), ↓gd_pos hA90, nI_z, kd1, hk']
      · have hk' : (nI (kdf y) = (11 : Int32)) = True := eq_true (by rw [hk]; rfl)
        obtain ⟨p1, p2⟩ := rx_normalize hA (Nat.le_refl _) (by omega) k R2 (Or.inl h82) ht h2 W2 hw hnr
        rw [show k + 407 = q by omega] at p1 p2
        refine ⟨fun ho => ?_, fun r ho => ?_⟩
        · obtain ⟨M3, c3, v, y3, F3, R3, W3, O3⟩ := p1 ho
          refine ⟨M3, c3, ?_, F02.trans (F3.mono (fun a k q => Or.inl q)), R3, WkG_of W3 O3⟩
          unfold T_X11_side_0
          simp (disch := omega) only [↓reduceIte, ↓gd_pos hO, ↓gd_pos hO0, ↓bnd2_of (show cal (q + 1) (fun zz => f_X11_isSlot zz (nI s) (wI M 89 0 0)) = _ from e), une, ↓bnd2_of (show cal (q + 1) (fun zz => f_X11_isEmpty zz 89 (nI s) (wI M 89 0 0)) = _ from e2), ↓bnd2_of (show cal (q + 1) (fun zz => f_X11_takes zz 89 (nI s) (wI M 89 0 0)) = _ from y1), ↓gd_pos (fO_R hW1), ↓bnd_of (r_89_1 hW1), ↓bnd2_of (show cal (q + 1) (fun zz => f_X11_asked zz 89 M1) = _ from y2), ↓gd_pos hA90, nI_z, kd1, hk', ↓gd_pos (fO_R hW2), ↓bnd2_of (show cal (q + 1) (fun zz => f_X11_normalize zz 89 M2) = _ from y3), show ((0 : Int32) ≤ -4) = False from eq_false (by decide)]
        · obtain ⟨M3, c3, y3, F3, R3, W3, -⟩ := p2 r ho
          rw [ho] at hnr
          obtain ⟨z1, z2, z3, z4, -, -⟩ := hnr.ok 60 ht h2 hw
          have hW3 := R3.1
          have hp := sz_pos r.2 z1
          have h5 := W3.kd (i := 0) hp
          have hor := W3.2.2.1.at_ (i := 0) hp
          have hor : 1 ≤ ort r.2 ∧ ort r.2 ≤ 10 := hor
          have h5' : M3.2.2.1 105 0 = nI (ort r.2 - 1) := h5
          have hA5 : fA M3 105 1 0 := fA_R hW3 (a := 105) (by omega) (s_105 hW3) (show 0 < 400 by omega) (by omega)
          have hk1 : ((0 : Int32) ≤ nI r.1.length) = True := eq_true (by rw [show (0 : Int32) = nI 0 from rfl, nI_le_ (by omega) (by omega)]; omega)
          refine ⟨M3, c3, ?_, F02.trans (F3.mono (fun a k q => Or.inl q)), R3, WkG_of W3 ⟨z1, z2, lab_ok (OkF.pt hA.1) _ z1 z3⟩⟩
          unfold T_X11_side_0
          simp (disch := omega) only [↓reduceIte, ↓gd_pos hO, ↓gd_pos hO0, ↓bnd2_of (show cal (q + 1) (fun zz => f_X11_isSlot zz (nI s) (wI M 89 0 0)) = _ from e), une, ↓bnd2_of (show cal (q + 1) (fun zz => f_X11_isEmpty zz 89 (nI s) (wI M 89 0 0)) = _ from e2), ↓bnd2_of (show cal (q + 1) (fun zz => f_X11_takes zz 89 (nI s) (wI M 89 0 0)) = _ from y1), ↓gd_pos (fO_R hW1), ↓bnd_of (r_89_1 hW1), ↓bnd2_of (show cal (q + 1) (fun zz => f_X11_asked zz 89 M1) = _ from y2), ↓gd_pos hA90, nI_z, kd1, hk', ↓gd_pos (fO_R hW2), ↓bnd2_of (show cal (q + 1) (fun zz => f_X11_normalize zz 89 M2) = _ from y3), hk1, ↓gd_pos (fO_R hW3), ↓bnd_of (r_89_20 hW3), ↓gd_pos hA5, show (0 : Int32).toNatClampNeg = 0 from rfl, h5', show (6 : Int32) = nI 6 from rfl, show (7 : Int32) = nI 7 from rfl, nI_eq_]
          unfold SdO
          by_cases q7 : ort r.2 = 7
          · rw [if_pos q7, if_pos (by omega)]
          · rw [if_neg q7, if_neg (by omega)]
            by_cases q8 : ort r.2 = 8
            · rw [if_pos q8, if_pos (by omega)]
            · rw [if_neg q8, if_neg (by omega)]
end SID
