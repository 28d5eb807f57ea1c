/-! THE INVARIANT over calls: fault, trace, drop, count, normal -/
section JD
variable {M M1 M2 : Mem} {c cR cr : Nat} {b : Nat → Nat} {L : Nat} {H : List (Nat × Fm)} {gf : Fm} {T T' : Nat → Option Tm} {ks : List Nat} {K k : Nat}
theorem j_fault (h : Jn k M) (x : Int32) : Pr2 (Jn (k + 1)) (f_X10_fault 2047 0 x) (f_X11_fault 2047 89 x) M := by
  obtain ⟨c, cR, b, L, H, gf, T, ks, hC, hR, hP, hE, hb, hm⟩ := h
  have e1 := c_fault hC.1.1 2047 x
  have e2 := rx_fault hC.1.1 2047 x
  rw [← hE.1, ← hE.2] at e2
  exact jn_ans hb hm hC hR hP hE e1 e2
theorem j_trace (h : Jn k M) (x : Int32) : Pr2 (Jn (k + 1)) (f_X10_trace 2047 0 x) (f_X11_trace 2047 89 x) M := by
  obtain ⟨c, cR, b, L, H, gf, T, ks, hC, hR, hP, hE, hb, hm⟩ := h
  obtain ⟨a1, a2⟩ := c_trace hC.1.1 2047 hC.2.2.1 hC.2.2.2.1 x
  obtain ⟨r1, r2⟩ := rx_trace hC.1.1 2046 hR.2.2.1.1 hR.2.2.1.2.1 x
  by_cases hx : ∃ j, j < ks.length ∧ x = nI j
  · obtain ⟨j, hj, e⟩ := hx
    have e1 := a1 j hj e
    have e2 := r1 j hj e
    have g1 := hC.2.2.2.2 j ks[j] (List.getElem?_eq_getElem hj)
    have g2 := hR.2.2.1.2.2 j ks[j] (List.getElem?_eq_getElem hj)
    rw [g1] at e1
    rw [g2] at e2
    exact jn_ans hb hm hC hR hP hE e1 e2
  · have hn : ∀ j, j < ks.length → x ≠ nI j := fun j hj e => hx ⟨j, hj, e⟩
    exact jn_ans hb hm hC hR hP hE (a2 hn) (r2 hn)
theorem mm_cls (hC : ClS M c H gf T) (hz : ∀ s t, s < 4 → T s = some t → sz t ≤ 200) : ∀ s, s < 4 → mmT T s ≤ 200 ∧ M.2.2.1 (25 + 3 * s) 2 = nI (mmT T s) := fun s hs => by
  unfold mmT
  cases hT : T s with
  | none => exact ⟨Nat.zero_le _, (hC.2.2.2.2.2.1 s hs).1 hT⟩
  | some t => exact ⟨hz s t hs hT, ((hC.2.2.2.2.2.1 s hs).2 t hT).1⟩
theorem mm_ref {CI : Fm → Prop} (hR : RfS M c H gf T CI K) (hz : ∀ s t, s < 4 → T s = some t → sz t ≤ 200) : ∀ s, s < 4 → mmT T s ≤ 200 ∧ M.2.2.1 104 s = nI (mmT T s) := fun s hs => by
  unfold mmT
  cases hT : T s with
  | none => exact ⟨Nat.zero_le _, (hR.2.2.2.2.1 s hs).1 hT⟩
  | some t => exact ⟨hz s t hs hT, ((hR.2.2.2.2.1 s hs).2 t hT).1⟩
theorem j_count (h : Jn k M) (x : Int32) : Pr2 (Jn (k + 1)) (f_X10_count 2047 0 x) (f_X11_count 2047 89 x) M := by
  obtain ⟨c, cR, b, L, H, gf, T, ks, hC, hR, hP, hE, hb, hm⟩ := h
  have hW := hC.1.1
  have F2' : Fr (fun a k => a = 89 ∧ k = 0) M (wI M 89 0 0) := Fr.refl.wI ⟨rfl, rfl⟩ _
  have hR0 := hR.1.w F2' (fun a k q => by omega)
  have hz : ∀ s t, s < 4 → T s = some t → sz t ≤ 200 := fun s t hs hT => (hP.2.2 s t hs hT).2.1
  obtain ⟨q, hq⟩ : ∃ q, q = 2046 := ⟨_, rfl⟩
  have e0 : f_X10_fullSlots q 0 M = some (bts (mmT T) 4, M) := ((ge_X10_fullSlots_0 q 0 M).trans rfl).trans (full_loop hW q (mm_cls hC.1 hz) 4 0 (by omega))
  have e1 : f_X10_count 2047 0 x M = some (if x = 0 then nI H.length else if x = 1 then bts (mmT T) 4 else if x = 2 then nI L else if x = 3 then nI ks.length else -1, M) := by
    rw [show 2047 = q + 1 by omega]
    show T_X10_count_0 (fun v M => some (v, M)) none (q + 1) 0 x M = _
    unfold T_X10_count_0
    have hO10 : fO M 10 2 := ⟨by rw [hW.1]; omega, s_10 hW⟩
    by_cases h0 : x = 0
    · simp only [h0, ↓reduceIte, ↓gd_pos (fO_0 hW), ↓bnd_of (r_0_3 hW), ↓gd_pos hO10, hC.1.2.2.2.1.1]
    · by_cases h1 : x = 1
      · simp only [h0, h1, ↓reduceIte, ↓gd_pos (fO_0 hW), ↓bnd2_of (show cal (q + 1) (fun zz => f_X10_fullSlots zz 0 M) = _ from e0), show ((1 : Int32) = 0) = False from eq_false (by decide)]
      · by_cases h2 : x = 2
        · simp only [h2, ↓reduceIte, ↓gd_pos (fO_0 hW), hC.2.1.1, show ((2 : Int32) = 0) = False from eq_false (by decide), show ((2 : Int32) = 1) = False from eq_false (by decide)]
        · by_cases h3 : x = 3
          · simp only [h3, ↓reduceIte, ↓gd_pos (fO_0 hW), hC.2.2.1, show ((3 : Int32) = 0) = False from eq_false (by decide), show ((3 : Int32) = 1) = False from eq_false (by decide), show ((3 : Int32) = 2) = False from eq_false (by decide)]
          · simp only [h0, h1, h2, h3, ↓reduceIte]
  have e2 : f_X11_count 2047 89 x M = some (if x = 0 then nI H.length else if x = 1 then bts (mmT T) 4 else if x = 2 then nI L else if x = 3 then nI ks.length else -1, wI M 89 0 0) := by
    have el := rfull_loop hR0.1 q (mm_ref hR0 hz) 4 0 (by omega)
    rw [show 2047 = q + 1 by omega]
    refine (ge_X11_count_0 (q + 1) 89 x M).trans ?_
    unfold T_X11_count_0
    have g15 : M.2.2.1 89 15 = nI H.length := hR.1.2.2.1.1
    have g27 : M.2.2.1 89 27 = nI L := hR.2.1.1
    have g47 : M.2.2.1 89 47 = nI ks.length := hR.2.2.1.1
    by_cases h0 : x = 0
    · simp only [h0, ↓reduceIte, ↓gd_pos (fO_R hW), up2_if, Nat.reduceEqDiff, and_false, if_false, g15]
    · by_cases h1 : x = 1
      · simp only [h1, ↓reduceIte, ↓gd_pos (fO_R hW), show ((1 : Int32) = 0) = False from eq_false (by decide)]
        exact el
      · by_cases h2 : x = 2
        · simp only [h2, ↓reduceIte, ↓gd_pos (fO_R hW), up2_if, Nat.reduceEqDiff, and_false, if_false, g27, show ((2 : Int32) = 0) = False from eq_false (by decide), show ((2 : Int32) = 1) = False from eq_false (by decide)]
        · by_cases h3 : x = 3
          · simp only [h3, ↓reduceIte, ↓gd_pos (fO_R hW), up2_if, Nat.reduceEqDiff, and_false, if_false, g47, show ((3 : Int32) = 0) = False from eq_false (by decide), show ((3 : Int32) = 1) = False from eq_false (by decide), show ((3 : Int32) = 2) = False from eq_false (by decide)]
          · simp only [h0, h1, h2, h3, ↓reduceIte, ↓gd_pos (fO_R hW)]
  exact jn_ans hb hm hC hR hP hE e1 e2
theorem ClS.dr (h : ClS M c H gf T) {s : Nat} (hs : s < 4) : ClS (wI (wI M (25 + 3 * s) 2 0) (25 + 3 * s) 3 0) c H gf (ups T s none) := by
  have hT : TOb (25 + 3 * s) := by unfold TOb; omega
  have hF : Fr (SO (25 + 3 * s)) M (wI (wI M (25 + 3 * s) 2 0) (25 + 3 * s) 3 0) := (Fr.refl.wI (Or.inl ⟨rfl, Or.inl rfl⟩) _).wI (Or.inl ⟨rfl, Or.inr rfl⟩) _
  obtain ⟨T1, d1⟩ := tab_mv h.2.2.1 hF (fun a k q => by have := q.not_low hT; omega)
  obtain ⟨hW, hP, -, hH, ⟨v, v1, v2, v3, v4⟩, hSl, hHt⟩ := h
  refine ⟨hF.Wd hW, fun w hw => (hF.lng (fun q => by have := q.not_low hT; omega)).trans (hP w hw), T1, hH.up hF (fun a k q => by have := q.not_low hT; omega) (fun i _ => d1 i) (Nat.le_refl _), ⟨v, v1, (hF.int (fun q => by have := q.not_low hT; omega)).trans v2, (d1 v).trans v3, (hF.int (fun q => by have := q.not_low hT; omega)).trans v4⟩, fun r hr => ?_, hHt⟩
  by_cases e : r = s
  · subst e
    rw [ups_at]
    exact ⟨fun _ => by simp [up2_if], fun u q => (by cases q)⟩
  · rw [ups_ne _ _ e]
    have sep : ∀ a k, SO (25 + 3 * s) a k → a ≠ 25 + 3 * r ∧ a ≠ 25 + 3 * r + 1 ∧ a ≠ 25 + 3 * r + 2 := fun a k q => by unfold SO at q; omega
    exact ⟨fun q => (hF.int (fun z => (sep _ _ z).1 rfl)).trans ((hSl r hr).1 q), fun u q => ((hSl r hr).2 u q).mv (hF.int (fun z => (sep _ _ z).1 rfl)) (hF.ints (fun k z => (sep _ _ z).2.1 rfl)) (hF.ints (fun k z => (sep _ _ z).2.2 rfl)) (fun i _ => d1 i) (Nat.le_refl _)⟩
set_option maxHeartbeats 1000000 in
theorem j_normal (h : Jn k M) (x : Int32) : Pr2 (Jn (k + 1)) (f_X10_normal 2047 0 x) (f_X11_normal 2047 89 x) M := by
  obtain ⟨c, cR, b, L, H, gf, T, ks, hC, hR, hP, hE, hb, hm⟩ := h
  have hCl := Inn_cls hC.1.2.2.1
  obtain ⟨a1, a2⟩ := c_normal hC.1 2041 x
  obtain ⟨r1, r2⟩ := rx_normal hR.1 (hP.ok hCl) (by omega) (Nat.le_refl _) hR.2.2.2.2 1639 x
  rcases slot_cases x with ⟨s, hs, hx⟩ | hn
  · obtain ⟨a3, a4⟩ := a2 s hs hx
    rcases none_or (T s) with hN | ⟨t, hT⟩
    · exact jn_ans hb hm hC hR hP hE (a3 hN) ((r2 s hs hx).1 hN)
    · obtain ⟨ht, hz, y, hw⟩ := hP.2.2 s t hs hT
      obtain ⟨o, ho⟩ := NrmR.ex 60 ht (hw.imp t ht (fun _ _ _ _ _ => trivial))
      obtain ⟨a5, a6⟩ := a4 t y o hT ht (Wc.inn ht hw) ho
      rcases none_or o with hq | ⟨r, hq⟩
      · obtain ⟨M1, e1, F1, C1⟩ := a5 hq
        have hS1 : ∀ a k, SRa a k → 10 ≤ a ∧ a < 89 := fun a k q => by unfold SRa SAg SO at q; omega
        obtain ⟨hR1, hP1, hCl1⟩ := jn_ref hC hR hP F1 hS1
        obtain ⟨-, q2⟩ := rx_normal hR1.1 (hP1.ok hCl1) (by omega) (Nat.le_refl _) hR1.2.2.2.2 1639 x
        have hw1 : Wc (OkF (Inn M1 c)) H.length (hF H) t 0 gN 0 y := hw.imp t ht (fun i z _ _ q => q.ci (Inn.cls F1 (fun a k q => (hS1 _ _ q).1)))
        obtain ⟨M2, cr, e2, F2, R2, W2⟩ := ((q2 s hs hx).2 t y o hT hw1 ho).1 hq
        exact jn_keep hb hm hC hE e1 F1 (fun a k q => by unfold SRa SAg SO at q; omega) C1 hR1 hP1 e2 F2 (fun a k q => by unfold SNz SSu SSq SSp SR STd STr at q; omega) ((F2.int (by unfold SNz SSu SSq SSp SR STd STr; omega)).trans hR1.2.2.2.2) R2 (by omega) W2 (by omega)
      · obtain ⟨M1, e1, F1, C1, K1⟩ := a6 r hq
        have hS1 : ∀ a k, (SNc a k ∨ SO (25 + 3 * s) a k) → (10 ≤ a ∨ (a = 0 ∧ k = 15)) ∧ a < 89 := fun a k q => by unfold SNc SRa SAg SO at q; omega
        have d1 := dC_fq F1 (fun k q => by have := hS1 _ _ q; omega) (fun k q => by have := hS1 _ _ q; omega) (fun k q => by have := hS1 _ _ q; omega)
        have hI : ∀ f, Inn M c f → Inn M1 c f := fun f ⟨v, v1, v2⟩ => ⟨v, v1, by rw [d1]; exact v2⟩
        have hR1 := hR.cls F1 (fun a k q => (hS1 _ _ q).2) hI
        have hP1 := hP.ci hI
        have hCl1 := Inn_cls C1.2.2.1
        obtain ⟨-, q2⟩ := rx_normal hR1.1 (hP1.ok hCl1) (by omega) (Nat.le_refl _) hR1.2.2.2.2 1639 x
        have hw1 : Wc (OkF (Inn M1 c)) H.length (hF H) t 0 gN 0 y := hw.imp t ht (fun i z _ _ q => q.ci hI)
        obtain ⟨M2, cr, e2, F2, R2, W2, K2⟩ := ((q2 s hs hx).2 t y o hT hw1 ho).2 r hq
        rw [hq] at ho
        obtain ⟨j1, j2, j3, j4, -, -⟩ := ho.ok 60 ht hz hw1
        have hC1 : ClA M1 c b L H gf (ups T s (some r.2)) r.1 := ⟨C1, ⟨(F1.int (fun q => by have := hS1 _ _ q; omega)).trans hC.2.1.1, hC.2.1.2.1, fun j hj => ⟨(hC.2.1.2.2 j hj).1, (F1.int (fun q => by have := hS1 _ _ q; omega)).trans (hC.2.1.2.2 j hj).2⟩⟩, K1⟩
        have hT1 := hR1.2.1
        have hSl : ∀ a k, SNl a k → 89 ≤ a ∧ ¬ (a = 89 ∧ (k = 8 ∨ k = 27 ∨ k = 32 ∨ k = 33)) ∧ a ≠ 109 := fun a k q => by unfold SNl SNz SSu SSq SSp SR STd STr at q; omega
        exact ⟨nI r.1.length, M1, M2, e1, fO_89 C1.1, e2, Jn.two (cR := cr) hb hm hC1 F1 (fun a k q => by have := hS1 _ _ q; unfold SNc SRa SAg SO at q; omega) F2 (fun a k q => by have := hSl _ _ q; omega) ⟨⟨R2.1, R2.2.1, R2.2.2.1, R2.2.2.2.1, R2.2.2.2.2.1, R2.2.2.2.2.2.mono (by omega)⟩, ⟨(F2.int (fun q => by have := hSl _ _ q; omega)).trans hT1.1, hT1.2.1, fun j hj => ⟨(hT1.2.2 j hj).1, (F2.int (fun q => by have := hSl _ _ q; omega)).trans (hT1.2.2 j hj).2⟩⟩, K2, W2.z (by omega), (F2.int (fun q => by have := hSl _ _ q; omega)).trans hR1.2.2.2.2⟩ (hP1.set j1 j2 j3 ((hP1.2.1.2 s t hs hT).nrm (hP1.hb C1.2.2.1) ht hz ho)) hE⟩
  · exact jn_ans hb hm hC hR hP hE (a1 hn) (r1 hn)
end JD
