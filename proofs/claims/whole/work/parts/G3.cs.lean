/-! SPELL and LENGTH in the class -/
/-- the text that spell and length speak of -/
def slT (H : List (Nat × Fm)) (t : Tm) (x : Fm) (w : Nat) : List Nat := if w = 2 then fsp x else tls [] (nps (nmH H) w t 0 []).flatten
def SSl (a k : Nat) : Prop := SAg a k ∨ a = 48 ∨ S66 a k
section CS3
variable {M M1 : Mem} {c q : Nat} {H : List (Nat × Fm)} {gf : Fm} {T : Nat → Option Tm}
theorem SpS.beg (hW : Wd M) (k : Nat) (hq : q < 2147483648 ∨ q = 4294967295) {y : Int64} (hy : y = wq q) : ∃ M1, f_X8_begin k 66 y M = some ((), M1) ∧ Fr S66 M M1 ∧ SpS M1 q [] := by
  refine ⟨wI (wJ (wJ M 66 2 y) 66 3 0) 66 4 (-1), ?_, ((Fr.refl.wJ ⟨rfl, by omega⟩ _).wJ ⟨rfl, by omega⟩ _).wI ⟨rfl, by omega⟩ _, by simp [up2_if, hy], by simp [up2_if]; rfl, by simp [up2_if, gtN], by simp, hq⟩
  show T_X8_begin_0 (fun v M => some (v, M)) none k 66 y M = _
  unfold T_X8_begin_0
  simp only [↓gd_pos (fO66 hW)]
theorem wkC.s6 {W : List Int32} (h : wkC M W) (hF : Fr S66 M M1) : wkC M1 W := ⟨(hF.int (by unfold S66; omega)).trans h.1, h.2.1, fun i x hi => (hF.int (by unfold S66; omega)).trans (h.2.2 i x hi)⟩
theorem Inn.s6 {f : Fm} (h : Inn M c f) (hd : ∀ i, dC M1 i = dC M i) : Inn M1 c f := by
  obtain ⟨v, v1, v2⟩ := h
  exact ⟨v, v1, (hd v).trans v2⟩
set_option maxHeartbeats 1000000 in
theorem c_spellSlot (h : ClS M c H gf T) (hN : isNm H) {s : Nat} (hs : s < 4) {t : Tm} {x : Fm} (hTs : T s = some t) (ht : isT t) (hw : Wc (Inn M c) H.length (hF H) t 0 gN 0 x) {w : Nat} (hw2 : w ≤ 2) (hq : q < 2147483648 ∨ q = 4294967295) {x3 : Int32} (hx3 : Int32.toInt64 x3 = wq q) (hb : (slT H t x w).length + 30 < 576460752303423488) (k : Nat) : ∃ M1, f_X10_spellSlot (k + 12) 0 (nI s) (nI w) x3 M = some ((), M1) ∧ Fq SSl M M1 ∧ ClS M1 c H gf T ∧ PtE M1 q (slT H t x w) := by
  have h0 := h
  obtain ⟨hW, hP, hTb, hH, hG, hSl, hHt⟩ := h
  have hTs' : TOb (25 + 3 * s) := by unfold TOb; omega
  have hR := (hSl s hs).2 t hTs
  obtain ⟨n, hn⟩ : ∃ n, n = k + 11 := ⟨_, rfl⟩
  have hsco := hw.sco hH.2.1 t ht
  obtain ⟨M1, y1, F1, L1, E1, Y1, w1, rf1⟩ := c_arrangeR hW hTs' ht hR hsco.1 (k + 8)
  rw [show k + 8 + 3 = n by omega] at y1
  have hW1 := F1.Wd hW
  obtain ⟨T1, d1⟩ := tab_mq hTb F1 (fun a k q => by unfold SAg at q; omega)
  have H1 : HyC M1 10 c H := hH.uq F1 (fun a k q => by unfold SAg at q; omega) (fun i _ => d1 i) (Nat.le_refl _)
  obtain ⟨M2, y2, F2, S2⟩ := SpS.beg hW1 n hq hx3
  have hW2 := F2.Wd hW1
  obtain ⟨T2, d2⟩ := T1.s6 F2
  have H2 := H1.s6 F2 d2
  have L2 := L1.s6 F2
  have Y2 : Ly M2 t 0 0 (-1) 0 1 (fun _ => 0) := Y1.congr t ht (fun a i h1 h2 _ _ => F2.int (by unfold S66; omega))
  have ee : f_X10_spellSlot (n + 1) 0 (nI s) (nI w) x3 M = T_X10_spellSlot_0 (fun v M => some (v, M)) none (n + 1) 0 (nI s) (nI w) x3 M := rfl
  rw [show k + 12 = n + 1 by omega, ee]
  by_cases hwe : w = 2
  · rw [slT, if_pos hwe] at hb ⊢
    have E2 : Ed M2 t 0 := E1.congr t ht (fun i _ _ => F2.int (by unfold S66; omega))
    have w2' : Wt (fun _ f => Inn M2 c f) H.length (hF H) t 0 gN 0 x := hw.imp t ht (fun i z _ _ g => (g.s6 d1).s6 d2)
    obtain ⟨c2, M3, B2, B3, res⟩ := c_ask (G := gN) ht L2 T2 H2 E2 Y2 (w1.s6 F2) hsco.1 hsco.2 (Or.inr ⟨x, w2'⟩) (k + 8)
    obtain ⟨rfl, F3⟩ := B3 ⟨x, w2'⟩
    rw [show k + 8 + 3 = n by omega] at res
    have hty : ty (hF H) t 0 gN 0 = .inr x := ty_Wt t ht hw
    rcases res with ⟨e5, -, g2, -⟩ | ⟨z, g2, wt, y3⟩
    · rw [hty] at g2; cases g2
    · rw [hty] at g2
      cases g2
      have hW3 := F3.Wd hW2
      obtain ⟨v, v1, v2, v3⟩ := wt.root t ht
      have y4 := c_typeOf hW3 n (i := 0) (by omega)
      rw [v2] at y4
      have y4' : f_X3_typeOf n 40 0 M3 = some (nI v, M3) := y4
      have S3 : SpS M3 q [] := S2.fr F3.q (fun k q => by have := q.1; omega)
      have T3 : TabC M3 c2 := B2.2.1
      have hlf := T3.long v1
      rw [v3] at hlf
      obtain ⟨M4, y5, F4, S4⟩ := c_putFormula hW3 T3 (n - 7) S3 v1 (by rw [v3]; omega) (by simp)
      rw [show n - 7 + 7 = n by omega] at y5
      rw [v3] at S4
      have S4 : SpS M4 q (fsp x) := S4
      have F : Fq SSl M M4 := (((F1.mono (fun a k q => Or.inl q)).trans (F2.mono (fun a k q => Or.inr (Or.inr q))).q).trans (F3.mono (fun a k q => Or.inr (Or.inl q.1))).q).trans (F4.mono (fun a k q => Or.inr (Or.inr q))).q
      refine ⟨M4, ?_, F, h0.wq F (fun a k q => by unfold SSl SAg S66 at q; omega) (fun k _ => by rw [F4.2.2.1, F3.2.2.1, F2.2.2.1]; exact rf1 53 k (by omega)), S4.2.2.1, fun _ => S4.2.1⟩
      unfold T_X10_spellSlot_0
      have hw22 : (nI w = (2 : Int32)) = True := eq_true (by rw [hwe]; rfl)
      simp (disch := omega) only [↓gd_pos (fO_0 hW), ↓bnd_of (r_0_7 hW), ↓bnd_of (r_0_5 hW), ↓gd_pos (fA_24 hW hs), nI_z, ↓bnd_of (slot_at hW hs).1, ↓gd_pos (fO_40 hW), ↓bnd2_of (show cal (n + 1) (fun zz => f_X3_arrange zz 40 (25 + 3 * s) M) = _ from y1), ↓gd_pos (fO_0 hW1), ↓bnd_of (r_0_9 hW1), ↓gd_pos (fO66 hW1), ↓bnd2_of (show cal (n + 1) (fun zz => f_X8_begin zz 66 (Int32.toInt64 x3) M1) = _ from y2), hw22, ↓reduceIte, ↓gd_pos (fO_0 hW2), ↓bnd_of (r_0_7 hW2), ↓gd_pos (fO_40 hW2), ↓bnd2_of (show cal (n + 1) (fun zz => f_X3_ask zz 40 M2) = _ from y3), ↓gd_pos (fO_0 hW3), ↓bnd_of (r_0_9 hW3), ↓bnd_of (r_0_7 hW3), ↓gd_pos (fO_40 hW3), ↓bnd2_of (show cal (n + 1) (fun zz => f_X3_typeOf zz 40 0 M3) = _ from y4'), ↓gd_pos (fO66 hW3), ↓bnd2_of (show cal (n + 1) (fun zz => f_X8_putFormula zz 66 (nI v) M3) = _ from y5)]
  · rw [slT, if_neg hwe] at hb ⊢
    have hw22 : (nI w = (2 : Int32)) = False := eq_false (fun z => by have := (nI_eq (b := 2) (by omega) (by omega)).mp z; omega)
    have fin : ∀ {M4 : Mem}, Fr S66 M2 M4 → Fq SSl M M4 ∧ ClS M4 c H gf T := by
      intro M4 F4
      have F : Fq SSl M M4 := ((F1.mono (fun a k q => Or.inl q)).trans (F2.mono (fun a k q => Or.inr (Or.inr q))).q).trans (F4.mono (fun a k q => Or.inr (Or.inr q))).q
      exact ⟨F, h0.wq F (fun a k q => by unfold SSl SAg S66 at q; omega) (fun k _ => by rw [F4.2.2.1, F2.2.2.1]; exact rf1 53 k (by omega))⟩
    by_cases hw0 : w = 0
    · obtain ⟨M4, y4, F4, E4⟩ := c_putTerm (pr := w) (x2 := 1) ht L2 T2 H2 hN Y2 hsco.2 hsco.1 S2 ⟨fun _ => rfl, fun g => absurd hw0 g⟩ hb (n - 10)
      rw [show n - 10 + 10 = n by omega] at y4
      obtain ⟨f1, f2⟩ := fin F4
      refine ⟨M4, ?_, f1, f2, E4⟩
      unfold T_X10_spellSlot_0
      have hw00 : (nI w = (0 : Int32)) = True := eq_true (by rw [hw0]; rfl)
      simp (disch := omega) only [↓gd_pos (fO_0 hW), ↓bnd_of (r_0_7 hW), ↓bnd_of (r_0_5 hW), ↓gd_pos (fA_24 hW hs), nI_z, ↓bnd_of (slot_at hW hs).1, ↓gd_pos (fO_40 hW), ↓bnd2_of (show cal (n + 1) (fun zz => f_X3_arrange zz 40 (25 + 3 * s) M) = _ from y1), ↓gd_pos (fO_0 hW1), ↓bnd_of (r_0_9 hW1), ↓gd_pos (fO66 hW1), ↓bnd2_of (show cal (n + 1) (fun zz => f_X8_begin zz 66 (Int32.toInt64 x3) M1) = _ from y2), hw22, ↓reduceIte, ↓gd_pos (fO_0 hW2), ↓bnd_of (r_0_9 hW2), ↓bnd_of (r_0_7 hW2), hw00, ↓gd_pos (fO66 hW2), ↓bnd2_of (show cal (n + 1) (fun zz => f_X8_putTerm zz 66 40 1 M2) = _ from y4)]
    · obtain ⟨M4, y4, F4, E4⟩ := c_putTerm (pr := w) (x2 := 0) ht L2 T2 H2 hN Y2 hsco.2 hsco.1 S2 ⟨fun g => absurd g hw0, fun _ => rfl⟩ hb (n - 10)
      rw [show n - 10 + 10 = n by omega] at y4
      obtain ⟨f1, f2⟩ := fin F4
      refine ⟨M4, ?_, f1, f2, E4⟩
      unfold T_X10_spellSlot_0
      have hw00 : (nI w = (0 : Int32)) = False := eq_false (fun z => by have := (nI_eq (b := 0) (by omega) (by omega)).mp z; omega)
      simp (disch := omega) only [↓gd_pos (fO_0 hW), ↓bnd_of (r_0_7 hW), ↓bnd_of (r_0_5 hW), ↓gd_pos (fA_24 hW hs), nI_z, ↓bnd_of (slot_at hW hs).1, ↓gd_pos (fO_40 hW), ↓bnd2_of (show cal (n + 1) (fun zz => f_X3_arrange zz 40 (25 + 3 * s) M) = _ from y1), ↓gd_pos (fO_0 hW1), ↓bnd_of (r_0_9 hW1), ↓gd_pos (fO66 hW1), ↓bnd2_of (show cal (n + 1) (fun zz => f_X8_begin zz 66 (Int32.toInt64 x3) M1) = _ from y2), hw22, ↓reduceIte, ↓gd_pos (fO_0 hW2), ↓bnd_of (r_0_9 hW2), ↓bnd_of (r_0_7 hW2), hw00, ↓gd_pos (fO66 hW2), ↓bnd2_of (show cal (n + 1) (fun zz => f_X8_putTerm zz 66 40 0 M2) = _ from y4)]
/-- a number that says what is asked -/
theorem what_no {x : Int32} {m : Nat} (hm : m < 100) (h : ∀ j, j ≤ m → x ≠ nI j) : x < 0 ∨ (¬ x < 0 ∧ ¬ x ≤ nI m) := by
  by_cases hneg : x < 0
  · exact Or.inl hneg
  · obtain ⟨i, hi, rfl⟩ := nI_of hneg
    exact Or.inr ⟨hneg, by rw [nI_le_ (by omega) (by omega)]; exact fun z => h i z rfl⟩
theorem what_in (x : Int32) (m : Nat) : (∃ j, j ≤ m ∧ x = nI j) ∨ ∀ j, j ≤ m → x ≠ nI j := by
  by_cases h : ∃ j, j ≤ m ∧ x = nI j
  · exact Or.inl h
  · exact Or.inr (fun j hj e => h ⟨j, hj, e⟩)
theorem ge_nI {x : Int32} (h : 0 ≤ x) : ∃ i, i < 2147483648 ∧ x = nI i := by
  obtain ⟨i, hi, e⟩ := nI_of (Int32.not_lt.mpr h)
  exact ⟨i, hi, e⟩
theorem c_spell (h : ClS M c H gf T) (hN : isNm H) (k : Nat) (x1 x2 x3 : Int32) :
    (((∀ s, s < 4 → x1 ≠ nI s) ∨ ∀ j, j ≤ 2 → x2 ≠ nI j) → f_X10_spell (k + 13) 0 x1 x2 x3 M = some (-2, M)) ∧ ∀ s w, s < 4 → w ≤ 2 → x1 = nI s → x2 = nI w →
    (¬ 0 ≤ x3 → f_X10_spell (k + 13) 0 x1 x2 x3 M = some (-3, M)) ∧ ∀ q, q < 2147483648 → x3 = nI q → 
    (T s = none → f_X10_spell (k + 13) 0 x1 x2 x3 M = some (-5, M)) ∧ ∀ t x, T s = some t → isT t → Wc (Inn M c) H.length (hF H) t 0 gN 0 x → (slT H t x w).length + 30 < 576460752303423488 →
    ∃ M1, f_X10_spell (k + 13) 0 x1 x2 x3 M = some (gtN (slT H t x w) q, M1) ∧ Fq SSl M M1 ∧ ClS M1 c H gf T := by
  have h0 := h
  obtain ⟨hW, hP, hTb, hH, hG, hSl, -⟩ := h
  obtain ⟨n, hn⟩ : ∃ n, n = k + 12 := ⟨_, rfl⟩
  obtain ⟨a1, a2⟩ := c_noSlot (M := M) n x1
  have hO := fO_0 hW
  have une : ((1 : Int32) = 0) = False := eq_false (by decide)
  have ee : f_X10_spell (n + 1) 0 x1 x2 x3 M = T_X10_spell_0 (fun v M => some (v, M)) none (n + 1) 0 x1 x2 x3 M := rfl
  rw [show k + 13 = n + 1 by omega, ee]
  refine ⟨fun hx => ?_, fun s w hs hw2 hx1 hx2 => ?_⟩
  · unfold T_X10_spell_0
    rcases slot_cases x1 with ⟨s, hs, hx1⟩ | hn1
    · have e := a1 s hs hx1
      have hx2 : ∀ j, j ≤ 2 → x2 ≠ nI j := by
        rcases hx with g | g
        · exact absurd hx1 (g s hs)
        · exact g
      rcases what_no (by omega) hx2 with g | ⟨g1, g2⟩
      · simp only [↓reduceIte, ↓bnd2_of (show cal (n + 1) (fun zz => f_X10_noSlot zz x1 M) = _ from e), g]
      · have g2 : ¬ x2 ≤ 2 := g2
        simp only [↓reduceIte, ↓bnd2_of (show cal (n + 1) (fun zz => f_X10_noSlot zz x1 M) = _ from e), g1, g2]
    · have e := a2 hn1
      simp only [↓reduceIte, ↓bnd2_of (show cal (n + 1) (fun zz => f_X10_noSlot zz x1 M) = _ from e), une]
  · have e := a1 s hs hx1
    subst hx1 hx2
    have hA := fA_24 hW hs
    have hS := (slot_at hW hs).1
    have hOs := fO_s hW hs
    have hneg : (nI w < (0 : Int32)) = False := nI_lt0 (by omega)
    refine ⟨fun hx => ?_, fun q hq hx3 => ⟨fun hNo => ?_, fun t x hTs ht hw hb => ?_⟩⟩
    · unfold T_X10_spell_0
      simp (disch := omega) only [↓reduceIte, ↓bnd2_of (show cal (n + 1) (fun zz => f_X10_noSlot zz (nI s) M) = _ from e), hneg, show (2 : Int32) = nI 2 from rfl, nI_le_, eq_true hw2, hx]
    · have hz := (hSl s hs).1 hNo
      have hx : ((0 : Int32) ≤ x3) = True := eq_true (by rw [hx3, show (0 : Int32) = nI 0 from rfl, nI_le_ (by omega) (by omega)]; omega)
      unfold T_X10_spell_0
      simp (disch := omega) only [↓reduceIte, ↓bnd2_of (show cal (n + 1) (fun zz => f_X10_noSlot zz (nI s) M) = _ from e), hneg, show (2 : Int32) = nI 2 from rfl, nI_le_, eq_true hw2, hx, ↓gd_pos hO, ↓bnd_of (r_0_5 hW), ↓gd_pos hA, nI_z, ↓bnd_of hS, ↓gd_pos hOs, hz]
    · have hne := sl_ne h0 hs ht hTs
      have hx : ((0 : Int32) ≤ x3) = True := eq_true (by rw [hx3, show (0 : Int32) = nI 0 from rfl, nI_le_ (by omega) (by omega)]; omega)
      obtain ⟨M1, y1, F1, C1, E1⟩ := c_spellSlot (q := q) (x3 := x3) h0 hN hs hTs ht hw hw2 (Or.inl hq) (by rw [hx3, nI_long hq, wq, if_pos hq]) hb k
      rw [← hn] at y1
      have hW1 := C1.1
      have ea := E1.1
      rw [if_pos hq] at ea
      refine ⟨M1, ?_, F1, C1⟩
      unfold T_X10_spell_0
      simp (disch := omega) only [↓reduceIte, ↓bnd2_of (show cal (n + 1) (fun zz => f_X10_noSlot zz (nI s) M) = _ from e), hneg, show (2 : Int32) = nI 2 from rfl, nI_le_, eq_true hw2, hx, ↓gd_pos hO, ↓bnd_of (r_0_5 hW), ↓gd_pos hA, nI_z, ↓bnd_of hS, ↓gd_pos hOs, hne, ↓bnd2_of (show cal (n + 1) (fun zz => f_X10_spellSlot zz 0 (nI s) (nI w) x3 M) = _ from y1), ↓gd_pos (fO_0 hW1), ↓bnd_of (r_0_9 hW1), ↓gd_pos (fO66 hW1), ea]
theorem c_length (h : ClS M c H gf T) (hN : isNm H) (k : Nat) (x1 x2 : Int32) :
    (((∀ s, s < 4 → x1 ≠ nI s) ∨ ∀ j, j ≤ 2 → x2 ≠ nI j) → f_X10_length (k + 13) 0 x1 x2 M = some (-2, M)) ∧ ∀ s w, s < 4 → w ≤ 2 → x1 = nI s → x2 = nI w →
    (T s = none → f_X10_length (k + 13) 0 x1 x2 M = some (-5, M)) ∧ ∀ t x, T s = some t → isT t → Wc (Inn M c) H.length (hF H) t 0 gN 0 x → (slT H t x w).length < 2147483648 →
    ∃ M1, f_X10_length (k + 13) 0 x1 x2 M = some (nI (slT H t x w).length, M1) ∧ Fq SSl M M1 ∧ ClS M1 c H gf T := by
  have h0 := h
  obtain ⟨hW, hP, hTb, hH, hG, hSl, -⟩ := h
  obtain ⟨n, hn⟩ : ∃ n, n = k + 12 := ⟨_, rfl⟩
  obtain ⟨a1, a2⟩ := c_noSlot (M := M) n x1
  have hO := fO_0 hW
  have une : ((1 : Int32) = 0) = False := eq_false (by decide)
  have ee : f_X10_length (n + 1) 0 x1 x2 M = T_X10_length_0 (fun v M => some (v, M)) none (n + 1) 0 x1 x2 M := rfl
  rw [show k + 13 = n + 1 by omega, ee]
  refine ⟨fun hx => ?_, fun s w hs hw2 hx1 hx2 => ?_⟩
  · unfold T_X10_length_0
    rcases slot_cases x1 with ⟨s, hs, hx1⟩ | hn1
    · have e := a1 s hs hx1
      have hx2 : ∀ j, j ≤ 2 → x2 ≠ nI j := by
        rcases hx with g | g
        · exact absurd hx1 (g s hs)
        · exact g
      rcases what_no (by omega) hx2 with g | ⟨g1, g2⟩
      · simp only [↓reduceIte, ↓bnd2_of (show cal (n + 1) (fun zz => f_X10_noSlot zz x1 M) = _ from e), g]
      · have g2 : ¬ x2 ≤ 2 := g2
        simp only [↓reduceIte, ↓bnd2_of (show cal (n + 1) (fun zz => f_X10_noSlot zz x1 M) = _ from e), g1, g2]
    · have e := a2 hn1
      simp only [↓reduceIte, ↓bnd2_of (show cal (n + 1) (fun zz => f_X10_noSlot zz x1 M) = _ from e), une]
  · have e := a1 s hs hx1
    subst hx1 hx2
    have hA := fA_24 hW hs
    have hS := (slot_at hW hs).1
    have hOs := fO_s hW hs
    have hneg : (nI w < (0 : Int32)) = False := nI_lt0 (by omega)
    refine ⟨fun hNo => ?_, fun t x hTs ht hw hb => ?_⟩
    · have hz := (hSl s hs).1 hNo
      unfold T_X10_length_0
      simp (disch := omega) only [↓reduceIte, ↓bnd2_of (show cal (n + 1) (fun zz => f_X10_noSlot zz (nI s) M) = _ from e), hneg, show (2 : Int32) = nI 2 from rfl, nI_le_, eq_true hw2, ↓gd_pos hO, ↓bnd_of (r_0_5 hW), ↓gd_pos hA, nI_z, ↓bnd_of hS, ↓gd_pos hOs, hz]
    · have hne := sl_ne h0 hs ht hTs
      obtain ⟨M1, y1, F1, C1, E1⟩ := c_spellSlot (q := 4294967295) (x3 := -1) h0 hN hs hTs ht hw hw2 (Or.inr rfl) (by decide) (by omega) k
      rw [← hn] at y1
      have hW1 := C1.1
      have ea := E1.2 rfl
      have hmin : (if (2147483647 : Int64) < lN (slT H t x w).length then (2147483647 : Int64) else lN (slT H t x w).length) = lN (slT H t x w).length := by
        rw [show (2147483647 : Int64) = lN 2147483647 from rfl, if_neg (by rw [lN_lt_ (by omega) (by omega)]; omega)]
      refine ⟨M1, ?_, F1, C1⟩
      unfold T_X10_length_0
      simp (disch := omega) only [↓reduceIte, ↓bnd2_of (show cal (n + 1) (fun zz => f_X10_noSlot zz (nI s) M) = _ from e), hneg, show (2 : Int32) = nI 2 from rfl, nI_le_, eq_true hw2, ↓gd_pos hO, ↓bnd_of (r_0_5 hW), ↓gd_pos hA, nI_z, ↓bnd_of hS, ↓gd_pos hOs, hne, ↓bnd2_of (show cal (n + 1) (fun zz => f_X10_spellSlot zz 0 (nI s) (nI w) (-1) M) = _ from y1), ↓gd_pos (fO_0 hW1), ↓bnd_of (r_0_9 hW1), ↓gd_pos (fO66 hW1), ea, hmin, ↓gd_pos (show 1 ≤ n + 1 by omega), lN_int hb]
end CS3
