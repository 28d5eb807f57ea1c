/-! SIZE, the call, in the class (end), and its loops in the reference -/
theorem crd_frx (l : List (Nat × Tm)) (n : Nat) : (frx l n 0 = none → crd l 0 n = 0) ∧ (frx l n 0 ≠ none → crd l 0 n ≠ 0) := by
  have z0 : ∀ n, (∀ j, j < n → rdl l j = 0) → crd l 0 n = 0 := by
    intro n
    induction n with
    | zero => intro _; rfl
    | succ n ih =>
      intro h
      unfold crd
      rw [if_neg (fun q => q.1 (h n (by omega)))]
      exact ih (fun j hj => h j (by omega))
  have z1 : ∀ n j, j < n → rdl l j ≠ 0 → crd l 0 n ≠ 0 := by
    intro n
    induction n with
    | zero => intro j hj; omega
    | succ n ih =>
      intro j hj h
      unfold crd
      by_cases e : j = n
      · subst e
        rw [if_pos ⟨h, Or.inl rfl⟩]
        omega
      · have := ih j (by omega) h
        split <;> omega
  rcases frx_is l n 0 with ⟨q, g⟩ | ⟨j, g1, g2, g3, g4, g5⟩
  · exact ⟨fun _ => z0 n (fun j hj => g j (by omega) (by omega)), fun h => absurd q h⟩
  · exact ⟨fun h => (by rw [g4] at h; cases h), fun _ => z1 n j (by omega) g3⟩
section CQ0
variable {M M1 : Mem} {c kk : Nat} {H : List (Nat × Fm)} {gf : Fm} {T : Nat → Option Tm}
set_option maxHeartbeats 2000000 in
theorem c_size (h : ClS M c H gf T) (hm : MkC kk M) (hkk : kk < 900) (k : Nat) (x1 x2 : Int32) :
    (((∀ s, s < 4 → x1 ≠ nI s) ∨ ∀ j, j ≤ 6 → x2 ≠ nI j) → f_X10_size (k + 6) 0 x1 x2 M = some (-2, M)) ∧ ∀ s w, s < 4 → w ≤ 6 → x1 = nI s → x2 = nI w →
    (T s = none → f_X10_size (k + 6) 0 x1 x2 M = some (-5, M)) ∧ ∀ t x tl, T s = some t → isT t → Wc (Inn M c) H.length (hF H) t 0 gN 0 x → Wt (fun i y => tl i = y) H.length (hF H) t 0 gN 0 x →
    ∃ v M1, f_X10_size (k + 6) 0 x1 x2 M = some (v, M1) ∧ SzA H gf t x tl w v ∧ Fq Ssz M M1 ∧ ClS M1 c H gf T ∧ MkC (kk + 1) M1 := by
  have h0 := h
  obtain ⟨hW, hP, hTb, hH, hG, hSl, -⟩ := h
  obtain ⟨n, hn⟩ : ∃ n, n = k + 5 := ⟨_, rfl⟩
  obtain ⟨a1, a2⟩ := c_noSlot (M := M) n x1
  have hO := fO_0 hW
  have une : ((1 : Int32) = 0) = False := eq_false (by decide)
  have ee : f_X10_size (n + 1) 0 x1 x2 M = T_X10_size_0 (fun v M => some (v, M)) none (n + 1) 0 x1 x2 M := rfl
  rw [show k + 6 = n + 1 by omega, ee]
  refine ⟨fun hx => ?_, fun s w hs hw6 hx1 hx2 => ?_⟩
  · unfold T_X10_size_0
    rcases slot_cases x1 with ⟨s, hs, hx1⟩ | hn1
    · have e := a1 s hs hx1
      have hx2 : ∀ j, j ≤ 6 → x2 ≠ nI j := by
        rcases hx with g | g
        · exact absurd hx1 (g s hs)
        · exact g
      rcases what_no (by omega) hx2 with g | ⟨g1, g2⟩
      · simp only [↓reduceIte, ↓bnd2_of (show cal (n + 1) (fun zz => f_X10_noSlot zz x1 M) = _ from e), g]
      · have g2 : ¬ x2 ≤ 6 := g2
        simp only [↓reduceIte, ↓bnd2_of (show cal (n + 1) (fun zz => f_X10_noSlot zz x1 M) = _ from e), g1, g2]
    · have e := a2 hn1
      simp only [↓reduceIte, ↓bnd2_of (show cal (n + 1) (fun zz => f_X10_noSlot zz x1 M) = _ from e), une]
  · have e := a1 s hs hx1
    subst hx1 hx2
    have hA := fA_24 hW hs
    have hS : M.2.2.2.2 24 ((nI s).toNatClampNeg) = some (25 + 3 * s) := by rw [nI_z (by omega)]; exact (slot_at hW hs).1
    have hOs := fO_s hW hs
    have hneg : (nI w < (0 : Int32)) = False := nI_lt0 (by omega)
    have hle6 : (nI w ≤ (6 : Int32)) = True := eq_true (by rw [show (6 : Int32) = nI 6 from rfl, nI_le_ (by omega) (by omega)]; exact hw6)
    refine ⟨fun hNo => ?_, fun t x tl hTs ht hw htl => ?_⟩
    · have hz := (hSl s hs).1 hNo
      unfold T_X10_size_0
      simp (disch := omega) only [↓reduceIte, ↓bnd2_of (show cal (n + 1) (fun zz => f_X10_noSlot zz (nI s) M) = _ from e), hneg, hle6, ↓gd_pos hO, ↓bnd_of (r_0_5 hW), ↓gd_pos hA, nI_z, ↓bnd_of hS, ↓gd_pos hOs, ↓if_pos hz]
    · have hne := sl_ne h0 hs ht hTs
      have hTs' : TOb (25 + 3 * s) := by unfold TOb; omega
      have hR := (hSl s hs).2 t hTs
      have h200 := hR.2.1
      rw [rws_len] at h200
      have hsco := hw.sco hH.2.1 t ht
      obtain ⟨M1, y1, F1, L1, E1, Y1, w1, rf1⟩ := c_arrangeR hW hTs' ht hR hsco.1 (k + 2)
      rw [show k + 2 + 3 = n by omega] at y1
      have hW1 := F1.Wd hW
      obtain ⟨T1, d1⟩ := tab_mq hTb F1 (fun a k q => by unfold SAg at q; omega)
      have H1 : HyC M1 10 c H := hH.uq F1 (fun a k q => by unfold SAg at q; omega) (fun i _ => d1 i) (Nat.le_refl _)
      have hR1 := L1.2.2.2
      have hm1 : MkC kk M1 := hm.fq F1 (by unfold SAg; omega) (by unfold SAg; omega)
      have hOs1 := fO_s hW1 hs
      have C1 : Fq Ssz M M1 ∧ ClS M1 c H gf T := by
        have F : Fq Ssz M M1 := F1.mono (fun a k q => Or.inl q)
        exact ⟨F, h0.wq F1 (fun a k q => by unfold SAg at q; omega) (fun k _ => rf1 53 k (by omega))⟩
      have hc : w = 0 ∨ w = 1 ∨ w = 2 ∨ w = 6 ∨ w = 3 ∨ w = 4 ∨ w = 5 := by omega
      have w1' : Wt (fun _ f => Inn M1 c f) H.length (hF H) t 0 gN 0 x := hw.imp t ht (fun i z _ _ g => g.s6 d1)
      obtain ⟨c2, M2, B2, B3, res⟩ := c_ask (G := gN) ht L1 T1 H1 E1 Y1 w1 hsco.1 hsco.2 (Or.inr ⟨x, w1'⟩) (k + 2)
      obtain ⟨rfl, F2⟩ := B3 ⟨x, w1'⟩
      rw [show k + 2 + 3 = n by omega] at res
      have hty : ty (hF H) t 0 gN 0 = .inr x := ty_Wt t ht hw
      obtain ⟨wt, y2⟩ : Wt (TyQ M2 c2) H.length (hF H) t 0 gN 0 x ∧ f_X3_ask n 40 M1 = some (-1, M2) := by
        rcases res with ⟨e5, -, g2, -⟩ | ⟨z, g2, wt, y3⟩
        · rw [hty] at g2; cases g2
        · rw [hty] at g2
          cases g2
          exact ⟨wt, y3⟩
      have hW2 := F2.Wd hW1
      have d2 : ∀ i, dC M2 i = dC M1 i := fun i => by rw [F2.dC]
      have byF : (w = 3 ∨ w = 4 ∨ w = 5) → ∃ v M3, f_X10_sizeByFormulas n 0 (nI w) M2 = some (v, M3) ∧ SzA H gf t x tl w v ∧ Fq Ssz M M3 ∧ ClS M3 c2 H gf T ∧ MkC (kk + 1) M3 := by
        intro hw3
        have H2 : HyC M2 10 c2 H := H1.up F2 (fun a k q => by have := q.1; omega) (fun i _ => d2 i) (Nat.le_refl _)
        have L2 : LtC M2 (25 + 3 * s) c2 (rws t) := L1.up F2 (fun a k q => by have := q.1; omega) (fun i _ => d2 i) (Nat.le_refl _)
        have tyl : ∀ i, i < sz t → TyQ M2 c2 i (tl i) := fun i hi => by
          obtain ⟨y, g1, g2⟩ := (Wt.and t ht wt htl).all t ht i (Nat.zero_le _) (by omega)
          rw [g2]; exact g1
        have F12 : Fq Ssz M M2 := (F1.mono (fun a k q => Or.inl q)).trans (F2.mono (fun a k q => Or.inr (Or.inl q.1))).q
        have C2 : ClS M2 c2 H gf T := h0.wq (S := fun a k => SAg a k ∨ a = 48) ((F1.mono (fun a k q => Or.inl q)).trans (F2.mono (fun a k q => Or.inr q.1)).q) (fun a k q => by unfold SAg at q; omega) (fun k _ => by rw [F2.2.2.1]; exact rf1 53 k (by omega))
        obtain ⟨v, M3, y3, A3, F3, m3⟩ := c_sizeBy hW2 B2.2.1 H2 C2.2.2.2.2.1 ht L2 tyl (htl.root t ht) (hm1.fq F2.q (fun q => by have := q.1; omega) (fun i q => by have := q.1; omega)) hkk hw3 (k + 2)
        rw [show k + 2 + 3 = n by omega] at y3
        obtain ⟨T3, d3⟩ := B2.2.1.s28 F3
        exact ⟨v, M3, y3, A3, F12.trans (F3.mono (fun a k q => Or.inr (Or.inr q))).q, C2.mq F3.q (fun a k q => by unfold S28 at q; omega) T3 (fun i _ => d3 i) (Nat.le_refl _) (fun k _ => by rw [F3.2.2.1]), m3⟩
      rcases hc with hc | hc | hc | hc | hc | hc | hc
      · have q0 : (nI w = (0 : Int32)) = True := eq_true (by rw [hc]; rfl)
        have hsz : M1.2.2.1 (25 + 3 * s) 2 = nI (sz t) := by rw [hR1.1, rws_len]
        refine ⟨nI (sz t), M1, ?_, Or.inl ⟨hc, rfl⟩, C1.1, C1.2, hm1.up⟩
        unfold T_X10_size_0
        simp (disch := omega) only [↓reduceIte, ↓bnd2_of (show cal (n + 1) (fun zz => f_X10_noSlot zz (nI s) M) = _ from e), hneg, hle6, ↓gd_pos hO, ↓bnd_of (r_0_5 hW), ↓gd_pos hA, nI_z, ↓bnd_of hS, ↓gd_pos hOs, hne, ↓bnd_of (r_0_7 hW), ↓gd_pos (fO40 hW), ↓bnd2_of (show cal (n + 1) (fun zz => f_X3_arrange zz 40 (25 + 3 * s) M) = _ from y1), q0, ↓gd_pos hOs1, hsz]
      · have q0 : (nI w = (0 : Int32)) = False := eq_false (by rw [hc]; decide)
        have q1 : (nI w = (1 : Int32)) = True := eq_true (by rw [hc]; rfl)
        have y2 := c_height (n := k + 4) ht L1 Y1
        rw [show k + 4 + 1 = n by omega] at y2
        refine ⟨_, M1, ?_, Or.inr (Or.inl ⟨hc, rfl⟩), C1.1, C1.2, hm1.up⟩
        unfold T_X10_size_0
        simp (disch := omega) only [↓reduceIte, ↓bnd2_of (show cal (n + 1) (fun zz => f_X10_noSlot zz (nI s) M) = _ from e), hneg, hle6, ↓gd_pos hO, ↓bnd_of (r_0_5 hW), ↓gd_pos hA, nI_z, ↓bnd_of hS, ↓gd_pos hOs, hne, ↓bnd_of (r_0_7 hW), ↓gd_pos (fO40 hW), ↓bnd2_of (show cal (n + 1) (fun zz => f_X3_arrange zz 40 (25 + 3 * s) M) = _ from y1), q0, q1, ↓gd_pos (fO_0 hW1), ↓bnd_of (r_0_7 hW1), ↓gd_pos (fO40 hW1), ↓bnd2_of (show cal (n + 1) (fun zz => f_X3_height zz 40 M1) = _ from y2)]
      · have q0 : (nI w = (0 : Int32)) = False := eq_false (by rw [hc]; decide)
        have q1 : (nI w = (1 : Int32)) = False := eq_false (by rw [hc]; decide)
        have q2 : (nI w = (2 : Int32)) = True := eq_true (by rw [hc]; rfl)
        have y2 := c_hypothesesUsed (n := n) hW1 hTs' hR1 (nmL_of hH.2.1 ht h200 hw)
        refine ⟨hu 0 (rws t), M1, ?_, Or.inr (Or.inr (Or.inl ⟨hc, rfl⟩)), C1.1, C1.2, hm1.up⟩
        unfold T_X10_size_0
        simp (disch := omega) only [↓reduceIte, ↓bnd2_of (show cal (n + 1) (fun zz => f_X10_noSlot zz (nI s) M) = _ from e), hneg, hle6, ↓gd_pos hO, ↓bnd_of (r_0_5 hW), ↓gd_pos hA, nI_z, ↓bnd_of hS, ↓gd_pos hOs, hne, ↓bnd_of (r_0_7 hW), ↓gd_pos (fO40 hW), ↓bnd2_of (show cal (n + 1) (fun zz => f_X3_arrange zz 40 (25 + 3 * s) M) = _ from y1), q0, q1, q2, ↓gd_pos hOs1, ↓bnd2_of (show cal (n + 1) (fun zz => f_X9_hypothesesUsed zz (25 + 3 * s) M1) = _ from y2)]
      · have q0 : (nI w = (0 : Int32)) = False := eq_false (by rw [hc]; decide)
        have q1 : (nI w = (1 : Int32)) = False := eq_false (by rw [hc]; decide)
        have q2 : (nI w = (2 : Int32)) = False := eq_false (by rw [hc]; decide)
        have q3 : (nI w = (3 : Int32)) = False := eq_false (by rw [hc]; decide)
        have q4 : (nI w = (4 : Int32)) = False := eq_false (by rw [hc]; decide)
        have q5 : (nI w = (5 : Int32)) = False := eq_false (by rw [hc]; decide)
        have q6 : (nI w = (6 : Int32)) = True := eq_true (by rw [hc]; rfl)
        have y2 := c_redexesOf hW1 hTs' hR1 (k + 3) (kd := 0) (by omega)
        rw [rws_len, show k + 3 + 2 = n by omega] at y2
        have y2' : f_X9_redexesOf n (25 + 3 * s) 0 M1 = some (nI (crd (rws t) 0 (sz t)), M1) := y2
        have hcl := crd_le (rws t) 0 (sz t)
        obtain ⟨c0, c1⟩ := crd_frx (rws t) (sz t)
        by_cases hf : frx (rws t) (sz t) 0 = none
        · have hv : (nI (crd (rws t) 0 (sz t)) = (0 : Int32)) = True := eq_true (by rw [c0 hf]; rfl)
          refine ⟨1, M1, ?_, Or.inr (Or.inr (Or.inr (Or.inr (Or.inr (Or.inr ⟨hc, Or.inl ⟨hf, rfl⟩⟩))))), C1.1, C1.2, hm1.up⟩
          unfold T_X10_size_0
          simp (disch := omega) only [↓reduceIte, ↓bnd2_of (show cal (n + 1) (fun zz => f_X10_noSlot zz (nI s) M) = _ from e), hneg, hle6, ↓gd_pos hO, ↓bnd_of (r_0_5 hW), ↓gd_pos hA, nI_z, ↓bnd_of hS, ↓gd_pos hOs, hne, ↓bnd_of (r_0_7 hW), ↓gd_pos (fO40 hW), ↓bnd2_of (show cal (n + 1) (fun zz => f_X3_arrange zz 40 (25 + 3 * s) M) = _ from y1), q0, q1, q2, q3, q4, q5, q6, ↓gd_pos hOs1, ↓bnd2_of (show cal (n + 1) (fun zz => f_X9_redexesOf zz (25 + 3 * s) 0 M1) = _ from y2'), hv]
        · have hv : (nI (crd (rws t) 0 (sz t)) = (0 : Int32)) = False := eq_false (fun z => c1 hf ((nI_eq (b := 0) (by omega) (by omega)).mp z))
          refine ⟨0, M1, ?_, Or.inr (Or.inr (Or.inr (Or.inr (Or.inr (Or.inr ⟨hc, Or.inr ⟨hf, rfl⟩⟩))))), C1.1, C1.2, hm1.up⟩
          unfold T_X10_size_0
          simp (disch := omega) only [↓reduceIte, ↓bnd2_of (show cal (n + 1) (fun zz => f_X10_noSlot zz (nI s) M) = _ from e), hneg, hle6, ↓gd_pos hO, ↓bnd_of (r_0_5 hW), ↓gd_pos hA, nI_z, ↓bnd_of hS, ↓gd_pos hOs, hne, ↓bnd_of (r_0_7 hW), ↓gd_pos (fO40 hW), ↓bnd2_of (show cal (n + 1) (fun zz => f_X3_arrange zz 40 (25 + 3 * s) M) = _ from y1), q0, q1, q2, q3, q4, q5, q6, ↓gd_pos hOs1, ↓bnd2_of (show cal (n + 1) (fun zz => f_X9_redexesOf zz (25 + 3 * s) 0 M1) = _ from y2'), hv]
      · have q0 : (nI w = (0 : Int32)) = False := eq_false (by rw [hc]; decide)
        have q1 : (nI w = (1 : Int32)) = False := eq_false (by rw [hc]; decide)
        have q2 : (nI w = (2 : Int32)) = False := eq_false (by rw [hc]; decide)
        have q3 : (nI w = (3 : Int32)) = True := eq_true (by rw [hc]; rfl)
        obtain ⟨v, M3, y3, A3, F3, C3, m3⟩ := byF (by omega)
        refine ⟨v, M3, ?_, A3, F3, C3, m3⟩
        unfold T_X10_size_0
        simp (disch := omega) only [↓reduceIte, ↓bnd2_of (show cal (n + 1) (fun zz => f_X10_noSlot zz (nI s) M) = _ from e), hneg, hle6, ↓gd_pos hO, ↓bnd_of (r_0_5 hW), ↓gd_pos hA, nI_z, ↓bnd_of hS, ↓gd_pos hOs, hne, ↓bnd_of (r_0_7 hW), ↓gd_pos (fO40 hW), ↓bnd2_of (show cal (n + 1) (fun zz => f_X3_arrange zz 40 (25 + 3 * s) M) = _ from y1), q0, q1, q2, q3, ↓gd_pos (fO_0 hW1), ↓bnd_of (r_0_7 hW1), ↓gd_pos (fO40 hW1), ↓bnd2_of (show cal (n + 1) (fun zz => f_X3_ask zz 40 M1) = _ from y2), ↓gd_pos (fO_0 hW2), ↓bnd2_of (show cal (n + 1) (fun zz => f_X10_sizeByFormulas zz 0 (nI w) M2) = _ from y3)]
      · have q0 : (nI w = (0 : Int32)) = False := eq_false (by rw [hc]; decide)
        have q1 : (nI w = (1 : Int32)) = False := eq_false (by rw [hc]; decide)
        have q2 : (nI w = (2 : Int32)) = False := eq_false (by rw [hc]; decide)
        have q3 : (nI w = (3 : Int32)) = False := eq_false (by rw [hc]; decide)
        have q4 : (nI w = (4 : Int32)) = True := eq_true (by rw [hc]; rfl)
        obtain ⟨v, M3, y3, A3, F3, C3, m3⟩ := byF (by omega)
        refine ⟨v, M3, ?_, A3, F3, C3, m3⟩
        unfold T_X10_size_0
        simp (disch := omega) only [↓reduceIte, ↓bnd2_of (show cal (n + 1) (fun zz => f_X10_noSlot zz (nI s) M) = _ from e), hneg, hle6, ↓gd_pos hO, ↓bnd_of (r_0_5 hW), ↓gd_pos hA, nI_z, ↓bnd_of hS, ↓gd_pos hOs, hne, ↓bnd_of (r_0_7 hW), ↓gd_pos (fO40 hW), ↓bnd2_of (show cal (n + 1) (fun zz => f_X3_arrange zz 40 (25 + 3 * s) M) = _ from y1), q0, q1, q2, q3, q4, ↓gd_pos (fO_0 hW1), ↓bnd_of (r_0_7 hW1), ↓gd_pos (fO40 hW1), ↓bnd2_of (show cal (n + 1) (fun zz => f_X3_ask zz 40 M1) = _ from y2), ↓gd_pos (fO_0 hW2), ↓bnd2_of (show cal (n + 1) (fun zz => f_X10_sizeByFormulas zz 0 (nI w) M2) = _ from y3)]
      · have q0 : (nI w = (0 : Int32)) = False := eq_false (by rw [hc]; decide)
        have q1 : (nI w = (1 : Int32)) = False := eq_false (by rw [hc]; decide)
        have q2 : (nI w = (2 : Int32)) = False := eq_false (by rw [hc]; decide)
        have q3 : (nI w = (3 : Int32)) = False := eq_false (by rw [hc]; decide)
        have q4 : (nI w = (4 : Int32)) = False := eq_false (by rw [hc]; decide)
        have q5 : (nI w = (5 : Int32)) = True := eq_true (by rw [hc]; rfl)
        obtain ⟨v, M3, y3, A3, F3, C3, m3⟩ := byF (by omega)
        refine ⟨v, M3, ?_, A3, F3, C3, m3⟩
        unfold T_X10_size_0
        simp (disch := omega) only [↓reduceIte, ↓bnd2_of (show cal (n + 1) (fun zz => f_X10_noSlot zz (nI s) M) = _ from e), hneg, hle6, ↓gd_pos hO, ↓bnd_of (r_0_5 hW), ↓gd_pos hA, nI_z, ↓bnd_of hS, ↓gd_pos hOs, hne, ↓bnd_of (r_0_7 hW), ↓gd_pos (fO40 hW), ↓bnd2_of (show cal (n + 1) (fun zz => f_X3_arrange zz 40 (25 + 3 * s) M) = _ from y1), q0, q1, q2, q3, q4, q5, ↓gd_pos (fO_0 hW1), ↓bnd_of (r_0_7 hW1), ↓gd_pos (fO40 hW1), ↓bnd2_of (show cal (n + 1) (fun zz => f_X3_ask zz 40 M1) = _ from y2), ↓gd_pos (fO_0 hW2), ↓bnd2_of (show cal (n + 1) (fun zz => f_X10_sizeByFormulas zz 0 (nI w) M2) = _ from y3)]
end CQ0
