/-! LINES, the calls, in the class -/
def hln (H : List (Nat × Fm)) : List Ln := H.map (fun x => ((0, x.2, 0, noF) : Ln))
/-- all lines of a term -/
def lnA (H : List (Nat × Fm)) (tl : Nat → Fm) (t : Tm) : List Ln := (lnF tl t 0 0 (fun _ => 0) (hln H)).2
theorem hln_len (H : List (Nat × Fm)) : (hln H).length = H.length := by unfold hln; rw [List.length_map]
theorem hln_take (H : List (Nat × Fm)) {i : Nat} (hi : i < H.length) : hln (H.take (i + 1)) = hln (H.take i) ++ [((0, H[i].2, 0, noF) : Ln)] := by
  unfold hln
  rw [List.take_succ_eq_append_getElem hi, List.map_append]
  rfl
def SNm (a k : Nat) : Prop := SAg a k ∨ a = 48 ∨ S6q a k
section CL7
variable {M M1 : Mem} {c n : Nat} {H : List (Nat × Fm)} {gf : Fm} {T : Nat → Option Tm} {tl : Nat → Fm}
theorem fi_7 : ∀ z i, i + z = H.length → ∀ (M : Mem), Wd M → HyC M 10 c H → LnC M c (hln (H.take i)) → ∃ M1, lp (st_X4_fill (n + 1)) (7, [.ref 67, .ref 40, .int (nI i)], M) = lp (st_X4_fill (n + 1)) (41, [.ref 67, .ref 40, .int (nI 0)], M1) ∧ Fr S67 M M1 ∧ LnC M1 c (hln H) := by
  intro z
  induction z with
  | zero =>
    intro i hi M hW hH hN
    have h6 := hH.2.1
    have hO10 : fO M 10 2 := ⟨by rw [hW.1]; omega, s_10 hW⟩
    refine ⟨M, ?_, Fr.refl, by rw [List.take_of_length_le (by omega)] at hN; exact hN⟩
    refine (ge_X4_fill_7 (n + 1) 67 40 (nI i) M).trans ?_
    unfold T_X4_fill_7
    have hle : (nI H.length ≤ nI i) = True := eq_true (by rw [nI_le_ (by omega) (by omega)]; omega)
    simp (disch := omega) only [↓gd_pos (fO67 hW), ↓bnd_of (r_67_0 hW), ↓gd_pos hO10, hH.1, hle, ↓reduceIte]
    rfl
  | succ z ih =>
    intro i hi M hW hH hN
    have h6 := hH.2.1
    have hO10 : fO M 10 2 := ⟨by rw [hW.1]; omega, s_10 hW⟩
    have hle : (nI H.length ≤ nI i) = False := eq_false (by rw [nI_le_ (by omega) (by omega)]; omega)
    obtain ⟨v, v1, -, v3, v4, -⟩ := hH.2.2 i (by omega)
    have v3 : M.2.2.1 12 i = nI v := v3
    have y1 := c_formulaOf10 hW n hH (show i < H.length by omega)
    rw [v3] at y1
    have hlt : (hln (H.take i)).length = i := by rw [hln_len, List.length_take]; omega
    obtain ⟨M1, y2, F1, N1⟩ := c_addLine (n := n) hW hN (by omega) v1 0 0
    rw [v4, ← hln_take H (by omega)] at N1
    have y2' : ∃ u, f_X4_addLine n 67 0 (nI v) 0 M = some (u, M1) := ⟨_, y2⟩
    obtain ⟨u, y2'⟩ := y2'
    have d1 := dC_67 F1
    obtain ⟨M2, y3, F2, N2⟩ := ih (i + 1) (by omega) M1 (F1.Wd hW) (hH.up F1 (fun a k q => by unfold S67 at q; omega) (fun i _ => d1 i) (Nat.le_refl _)) N1
    refine ⟨M2, ?_, F1.trans F2, N2⟩
    refine (ge_X4_fill_7 (n + 1) 67 40 (nI i) M).trans ?_
    unfold T_X4_fill_7
    simp (disch := omega) only [↓gd_pos (fO67 hW), ↓bnd_of (r_67_0 hW), ↓gd_pos hO10, hH.1, hle, ↓reduceIte, ↓bnd2_of (show cal (n + 1) (fun zz => f_X2_formulaOf zz 10 (nI i) M) = _ from y1), ↓bnd2_of (show cal (n + 1) (fun zz => f_X4_addLine zz 67 0 (nI v) 0 M) = _ from y2'), nI_1]
    exact y3
theorem lnA_len {t : Tm} (ht : isT t) (hz : sz t ≤ 200) (h6 : H.length ≤ 6) : (lnA H tl t).length + 1 ≤ 406 := by
  have := (lnF_len tl t ht 0 0 (fun _ => 0) (hln H)).1
  rw [hln_len] at this
  unfold lnA
  omega
theorem c_fill {tr : Nat} {t : Tm} (ht : isT t) (hL : LtC M tr c (rws t)) (hT : TabC M c) (hH : HyC M 10 c H) (hE : Ed M t 0) {A : Nat → Nat} (hY : Ly M t 0 0 (-1) 0 1 A) (hw : wkC M (wk t 0 0)) {x : Fm} (htl : Wt (fun i y => tl i = y) H.length (hF H) t 0 gN 0 x) (hty : ∀ i, i < sz t → TyQ M c i (tl i)) : ∃ M1, f_X4_fill (n + 3) 67 40 M = some ((), M1) ∧ Fr S6q M M1 ∧ LnC M1 c (lnA H tl t) := by
  have hW := hL.1
  have h6 := hH.2.1
  have h200 := hL.2.2.2.2.1
  rw [rws_len] at h200
  have F0 : Fr S67 M (wI M 67 7 0) := Fr.refl.wI (Or.inl ⟨rfl, rfl⟩) _
  have d0 := dC_67 F0
  have hW0 := F0.Wd hW
  have H0 : HyC (wI M 67 7 0) 10 c H := hH.up F0 (fun a k q => by unfold S67 at q; omega) (fun i _ => d0 i) (Nat.le_refl _)
  obtain ⟨M1, y1, F1, N1⟩ := fi_7 (n := n + 2) (c := c) H.length 0 (by omega) (wI M 67 7 0) hW0 H0 ⟨by simp [up2_if]; rfl, by simp [hln], fun i e hi => by simp [hln] at hi⟩
  have F01 : Fr S6q M M1 := (F0.trans F1).mono (fun a k q => Or.inl q)
  obtain ⟨M2, y2, F2, N2, -⟩ := fl_main (n := n) hL hT hw hty h6 t ht 0 0 0 1 0 (-1) A (fun _ => 0) gN x (hln H) M1 hY hE Sb.self ⟨[], [], by simp, rfl⟩ htl (by omega) F01 N1 (by rw [hln_len]; omega) (fun k hk => by omega)
  have F02 : Fr S6q M M2 := F01.trans (F2.mono (fun a k q => q.q))
  refine ⟨M2, ?_, F02, N2⟩
  obtain ⟨m, hm⟩ : ∃ m, m = n + 2 := ⟨_, rfl⟩
  rw [show n + 3 = m + 1 by omega]
  rw [← hm] at y1 y2
  refine (ge_X4_fill_0 (m + 1) 67 40 M).trans ?_
  unfold T_X4_fill_0
  simp only [↓gd_pos (fO67 hW)]
  refine y1.trans (y2.trans ?_)
  rw [Nat.zero_add]
  refine (ge_X4_fill_41 (m + 1) 67 40 (nI (wk t 0 0).length) M2).trans ?_
  unfold T_X4_fill_41
  have hw2 := hw.s7 F02
  have hle : (nI (wk t 0 0).length ≤ nI (wk t 0 0).length) = True := eq_true (by have := hw.2.1; rw [nI_le_ (by omega) (by omega)]; exact Nat.le_refl _)
  simp only [↓gd_pos (fO40 (F02.Wd hW)), hw2.1, hle, ↓reduceIte]
set_option maxHeartbeats 1000000 in
theorem c_numberLines (h : ClS M c H gf T) (k : Nat) (x1 : Int32) :
    ((∀ s, s < 4 → x1 ≠ nI s) → f_X10_numberLines (k + 4) 0 x1 M = some (-2, M)) ∧ ∀ s, s < 4 → x1 = nI s →
    (T s = none → f_X10_numberLines (k + 4) 0 x1 M = some (-5, M)) ∧ ∀ t x, T s = some t → isT t → Wc (Inn M c) H.length (hF H) t 0 gN 0 x → Wt (fun i y => tl i = y) H.length (hF H) t 0 gN 0 x →
    ∃ M1, f_X10_numberLines (k + 4) 0 x1 M = some (0, M1) ∧ Fq SNm M M1 ∧ ClS M1 c H gf T ∧ LnC M1 c (lnA H tl t) := by
  have h0 := h
  obtain ⟨hW, hP, hTb, hH, hG, hSl, -⟩ := h
  obtain ⟨n, hn⟩ : ∃ n, n = k + 3 := ⟨_, rfl⟩
  obtain ⟨a1, a2⟩ := c_noSlot (M := M) n x1
  have hO := fO_0 hW
  have une : ((1 : Int32) = 0) = False := eq_false (by decide)
  have ee : f_X10_numberLines (n + 1) 0 x1 M = T_X10_numberLines_0 (fun v M => some (v, M)) none (n + 1) 0 x1 M := rfl
  rw [show k + 4 = n + 1 by omega, ee]
  refine ⟨fun hx => ?_, fun s hs hx1 => ?_⟩
  · have e := a2 hx
    unfold T_X10_numberLines_0
    simp only [↓reduceIte, ↓bnd2_of (show cal (n + 1) (fun zz => f_X10_noSlot zz x1 M) = _ from e), une]
  · have e := a1 s hs hx1
    subst hx1
    have hA := fA_24 hW hs
    have hS : M.2.2.2.2 24 ((nI s).toNatClampNeg) = some (25 + 3 * s) := by rw [nI_z (by omega)]; exact (slot_at hW hs).1
    have hOs := fO_s hW hs
    refine ⟨fun hNo => ?_, fun t x hTs ht hw htl => ?_⟩
    · have hz := (hSl s hs).1 hNo
      unfold T_X10_numberLines_0
      simp (disch := omega) only [↓reduceIte, ↓bnd2_of (show cal (n + 1) (fun zz => f_X10_noSlot zz (nI s) M) = _ from e), ↓gd_pos hO, ↓bnd_of (r_0_5 hW), ↓gd_pos hA, ↓bnd_of hS, ↓gd_pos hOs, ↓if_pos hz]
    · have hne := sl_ne h0 hs ht hTs
      have hTs' : TOb (25 + 3 * s) := by unfold TOb; omega
      have hR := (hSl s hs).2 t hTs
      have hsco := hw.sco hH.2.1 t ht
      obtain ⟨M1, y1, F1, L1, E1, Y1, w1, rf1⟩ := c_arrangeR hW hTs' ht hR hsco.1 k
      rw [← hn] at y1
      have hW1 := F1.Wd hW
      obtain ⟨T1, d1⟩ := tab_mq hTb F1 (fun a k q => by unfold SAg at q; omega)
      have H1 : HyC M1 10 c H := hH.uq F1 (fun a k q => by unfold SAg at q; omega) (fun i _ => d1 i) (Nat.le_refl _)
      have w1' : Wt (fun _ f => Inn M1 c f) H.length (hF H) t 0 gN 0 x := hw.imp t ht (fun i z _ _ g => g.s6 d1)
      obtain ⟨c2, M2, B2, B3, res⟩ := c_ask (G := gN) ht L1 T1 H1 E1 Y1 w1 hsco.1 hsco.2 (Or.inr ⟨x, w1'⟩) k
      obtain ⟨rfl, F2⟩ := B3 ⟨x, w1'⟩
      rw [← hn] at res
      have hty : ty (hF H) t 0 gN 0 = .inr x := ty_Wt t ht hw
      obtain ⟨wt, y2⟩ : Wt (TyQ M2 c2) H.length (hF H) t 0 gN 0 x ∧ f_X3_ask n 40 M1 = some (-1, M2) := by
        rcases res with ⟨e5, -, g2, -⟩ | ⟨z, g2, wt, y3⟩
        · rw [hty] at g2; cases g2
        · rw [hty] at g2
          cases g2
          exact ⟨wt, y3⟩
      have hW2 := F2.Wd hW1
      have d2 : ∀ i, dC M2 i = dC M1 i := fun i => by rw [F2.dC]
      have H2 : HyC M2 10 c2 H := H1.up F2 (fun a k q => by have := q.1; omega) (fun i _ => d2 i) (Nat.le_refl _)
      have L2 : LtC M2 (25 + 3 * s) c2 (rws t) := L1.up F2 (fun a k q => by have := q.1; omega) (fun i _ => d2 i) (Nat.le_refl _)
      have tyl : ∀ i, i < sz t → TyQ M2 c2 i (tl i) := fun i hi => by
        obtain ⟨y, g1, g2⟩ := (Wt.and t ht wt htl).all t ht i (Nat.zero_le _) (by omega)
        rw [g2]; exact g1
      have E2 : Ed M2 t 0 := E1.congr t ht (fun i _ _ => F2.int (fun q => by have := q.1; omega))
      have Y2 : Ly M2 t 0 0 (-1) 0 1 (fun _ => 0) := Y1.congr t ht (fun a i h1 h2 _ _ => F2.int (fun q => by have := q.1; omega))
      have w2 : wkC M2 (wk t 0 0) := ⟨(F2.int (fun q => by have := q.1; omega)).trans w1.1, w1.2.1, fun i x hi => (F2.int (fun q => by have := q.1; omega)).trans (w1.2.2 i x hi)⟩
      obtain ⟨M3, y3, F3, N3⟩ := c_fill (n := k) ht L2 B2.2.1 H2 E2 Y2 w2 htl tyl
      rw [← hn] at y3
      have F : Fq SNm M M3 := ((F1.mono (fun a k q => Or.inl q)).trans (F2.mono (fun a k q => Or.inr (Or.inl q.1))).q).trans (F3.mono (fun a k q => Or.inr (Or.inr q))).q
      refine ⟨M3, ?_, F, h0.wq F (fun a k q => by unfold SNm SAg S6q S67 at q; omega) (fun k _ => by rw [F3.2.2.1, F2.2.2.1]; exact rf1 53 k (by omega)), N3⟩
      unfold T_X10_numberLines_0
      simp (disch := omega) only [↓reduceIte, ↓bnd2_of (show cal (n + 1) (fun zz => f_X10_noSlot zz (nI s) M) = _ from e), ↓gd_pos hO, ↓bnd_of (r_0_5 hW), ↓gd_pos hA, ↓bnd_of hS, ↓gd_pos hOs, hne, ↓bnd_of (r_0_7 hW), ↓gd_pos (fO40 hW), ↓bnd2_of (show cal (n + 1) (fun zz => f_X3_arrange zz 40 (25 + 3 * s) M) = _ from y1), ↓gd_pos (fO_0 hW1), ↓bnd_of (r_0_7 hW1), ↓gd_pos (fO40 hW1), ↓bnd2_of (show cal (n + 1) (fun zz => f_X3_ask zz 40 M1) = _ from y2), ↓gd_pos (fO_0 hW2), ↓bnd_of (r_0_10 hW2), ↓bnd_of (r_0_7 hW2), ↓gd_pos (fO67 hW2), ↓bnd2_of (show cal (n + 1) (fun zz => f_X4_fill zz 67 40 M2) = _ from y3)]
end CL7
