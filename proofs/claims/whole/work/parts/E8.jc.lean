/-! THE INVARIANT over calls: equal, alike, side, cut, redexes, normal -/
section JC
variable {M M1 M2 : Mem} {c cR cr : Nat} {b : Nat → Nat} {L : Nat} {H : List (Nat × Fm)} {gf : Fm} {T T' : Nat → Option Tm} {ks : List Nat} {K k : Nat} {f g : Mem → Option (Int32 × Mem)} {v : Int32} {SC SR : Nat → Nat → Prop}
theorem jn_ref (hC : ClA M c b L H gf T ks) (hR : RfA M cR b L H gf T ks (Inn M c)) (hP : JnP (Inn M c) H gf T) (hF : Fq SC M M1) (hS : ∀ a k, SC a k → 10 ≤ a ∧ a < 89) : RfA M1 cR b L H gf T ks (Inn M1 c) ∧ JnP (Inn M1 c) H gf T ∧ Cls (Inn M1 c) := by
  have hI := Inn.cls (c := c) hF (fun a k q => (hS _ _ q).1)
  exact ⟨hR.cls hF (fun a k q => (hS _ _ q).2) hI, hP.ci hI, Inn_cls (tab_mq hC.1.2.2.1 hF (fun a k q => (hS _ _ q).1)).1⟩
/-- a pair of calls that leave tape, trace and fault -/
theorem jn_keep (hb : 1240 * c + 601 * L ≤ 12020 * k + 11160) (hm : MkC k M) (hC : ClA M c b L H gf T ks) (hE : FlE M) (e1 : f M = some (v, M1)) (F1 : Fq SC M M1) (hSC : ∀ a k, SC a k → 10 ≤ a ∧ a < 89 ∧ a ≠ 88 ∧ ¬ (a = 14 ∧ (k = 17 ∨ k = 18))) (C1 : ClS M1 c H gf T') (hR1 : RfA M1 cR b L H gf T ks (Inn M1 c)) (hP' : JnP (Inn M1 c) H gf T') (e2 : g M1 = some (v, M2)) (F2 : Fr SR M1 M2) (hSR : ∀ a k, SR a k → 89 ≤ a ∧ ¬ (a = 89 ∧ (k = 27 ∨ k = 47 ∨ k = 32 ∨ k = 33)) ∧ a ≠ 109 ∧ a ≠ 117) (h8 : M2.2.2.1 89 8 = 0) (R2 : RfS M2 cr H gf T' (Inn M1 c) K) (hK : K ≤ 11000) {z : Nat} (W2 : WkG M2 cr (Inn M1 c) z) (hz : z ≤ 121) : Pr2 (Jn (k + 1)) f g M := by
  refine ⟨v, M1, M2, e1, fO_89 C1.1, e2, Jn.two (cR := cr) hb hm (hC.mk C1 F1 (fun a k q => by have := hSC _ _ q; omega)) F1 (fun a k q => by have := hSC _ _ q; omega) F2 (fun a k q => by have := hSR _ _ q; omega) ?_ hP' hE⟩
  obtain ⟨-, hT, hKs, -, -⟩ := hR1
  exact ⟨⟨R2.1, R2.2.1, R2.2.2.1, R2.2.2.2.1, R2.2.2.2.2.1, R2.2.2.2.2.2.mono hK⟩, ⟨(F2.int (fun q => (hSR _ _ q).2.1 (by omega))).trans hT.1, hT.2.1, fun j hj => ⟨(hT.2.2 j hj).1, (F2.int (fun q => (hSR _ _ q).2.2.1 rfl)).trans (hT.2.2 j hj).2⟩⟩, ⟨(F2.int (fun q => (hSR _ _ q).2.1 (by omega))).trans hKs.1, hKs.2.1, fun j x hj => (F2.int (fun q => (hSR _ _ q).2.2.2 rfl)).trans (hKs.2.2 j x hj)⟩, W2.z hz, h8⟩
/-- a pair that only answers -/
theorem jn_ans (hb : 1240 * c + 601 * L ≤ 12020 * k + 11160) (hm : MkC k M) (hC : ClA M c b L H gf T ks) (hR : RfA M cR b L H gf T ks (Inn M c)) (hP : JnP (Inn M c) H gf T) (hE : FlE M) (e1 : f M = some (v, M)) (e2 : g M = some (v, wI M 89 0 0)) : Pr2 (Jn (k + 1)) f g M := by
  have F2' : Fr (fun a k => a = 89 ∧ k = 0) M (wI M 89 0 0) := Fr.refl.wI ⟨rfl, rfl⟩ _
  exact jn_keep hb hm hC hE e1 (Fq.refl (S := fun _ _ => False)) (fun a k q => q.elim) hC.1 hR hP e2 F2' (fun a k q => by omega) ((F2'.int (by omega)).trans hR.2.2.2.2) (hR.1.w F2' (fun a k q => by omega)) (Nat.le_refl _) (show WkG (wI M 89 0 0) cR (Inn M c) 121 from hR.2.2.2.1) (Nat.le_refl _)
theorem JnP.nm (hP : JnP (Inn M c) H gf T) (h6 : H.length ≤ 6) {s : Nat} {t : Tm} (hs : s < 4) (hT : T s = some t) : isT t ∧ nmL (rws t) := by
  obtain ⟨a1, a2, x, a3⟩ := hP.2.2 s t hs hT
  exact ⟨a1, nmL_of h6 a1 a2 a3⟩
theorem JnP.ty (hP : JnP (Inn M c) H gf T) {s : Nat} {t : Tm} (hs : s < 4) (hT : T s = some t) : isT t ∧ ∃ y, Wc (Inn M c) H.length (hF H) t 0 gN 0 y := by
  obtain ⟨a1, a2, x, a3⟩ := hP.2.2 s t hs hT
  exact ⟨a1, x, Wc.inn a1 a3⟩
theorem JnP.ty2 {CI : Fm → Prop} (hP : JnP CI H gf T) {s : Nat} {t : Tm} (hs : s < 4) (hT : T s = some t) : ∃ y, Wc (OkF CI) H.length (hF H) t 0 gN 0 y := (hP.2.2 s t hs hT).2.2
theorem none_or {α : Type} (o : Option α) : o = none ∨ ∃ x, o = some x := by
  cases o with
  | none => exact Or.inl rfl
  | some x => exact Or.inr ⟨x, rfl⟩
theorem j_equal (h : Jn k M) (x1 x2 : Int32) : Pr2 (Jn (k + 1)) (f_X10_equal 2047 0 x1 x2) (f_X11_equal 2047 89 x1 x2) M := by
  obtain ⟨c, cR, b, L, H, gf, T, ks, hC, hR, hP, hE, hb, hm⟩ := h
  have hCl := Inn_cls hC.1.2.2.1
  have h6 := hC.1.2.2.2.1.2.1
  obtain ⟨a1, a2⟩ := c_equal hC.1 (fun s t hs hT => hP.nm h6 hs hT) 2046 x1 x2
  obtain ⟨r1, r2⟩ := rx_equal hR.1 (hP.ok hCl) (by omega) hR.2.2.2.2 (fun s t hs hT => (hP.nm h6 hs hT).2) 1842 x1 x2
  rcases slot_cases x1 with ⟨s1, hs1, hx1⟩ | hn1
  · obtain ⟨a3, a4⟩ := a2 s1 hs1 hx1
    obtain ⟨r3, r4⟩ := r2 s1 hs1 hx1
    rcases slot_cases x2 with ⟨s2, hs2, hx2⟩ | hn2
    · obtain ⟨a5, a6⟩ := a4 s2 hs2 hx2
      obtain ⟨r5, r6⟩ := r4 s2 hs2 hx2
      rcases none_or (T s1) with hN | ⟨t1, hT1⟩
      · exact jn_ans hb hm hC hR hP hE (a5 (Or.inl hN)) (r5 (Or.inl hN))
      · rcases none_or (T s2) with hN | ⟨t2, hT2⟩
        · exact jn_ans hb hm hC hR hP hE (a5 (Or.inr hN)) (r5 (Or.inr hN))
        · obtain ⟨a7, a8⟩ := a6 t1 t2 hT1 hT2
          obtain ⟨M2, cr, F2, R2, W2, r7, r8⟩ := r6 t1 t2 hT1 hT2
          have hSR : ∀ a k, SEq a k → 89 ≤ a ∧ ¬ (a = 89 ∧ (k = 27 ∨ k = 47 ∨ k = 32 ∨ k = 33)) ∧ a ≠ 109 ∧ a ≠ 117 := fun a k q => by unfold SEq SSu SSq SSp SR STd STr SKb at q; omega
          have h8 : M2.2.2.1 89 8 = 0 := (F2.int (by unfold SEq SSu SSq SSp SR STd STr SKb; omega)).trans hR.2.2.2.2
          by_cases q : rws t1 = rws t2
          · exact jn_keep hb hm hC hE (a7 q) (Fq.refl (S := fun _ _ => False)) (fun a k q => q.elim) hC.1 hR hP (r7 q) F2 hSR h8 R2 (by omega) W2 (by omega)
          · exact jn_keep hb hm hC hE (a8 q) (Fq.refl (S := fun _ _ => False)) (fun a k q => q.elim) hC.1 hR hP (r8 q) F2 hSR h8 R2 (by omega) W2 (by omega)
    · exact jn_ans hb hm hC hR hP hE (a3 hn2) (r3 hn2)
  · exact jn_ans hb hm hC hR hP hE (a1 hn1) (r1 hn1)
theorem j_redexes (h : Jn k M) (x1 x2 : Int32) : Pr2 (Jn (k + 1)) (f_X10_redexes 2047 0 x1 x2) (f_X11_redexes 2047 89 x1 x2) M := by
  obtain ⟨c, cR, b, L, H, gf, T, ks, hC, hR, hP, hE, hb, hm⟩ := h
  have hCl := Inn_cls hC.1.2.2.1
  obtain ⟨a1, a2⟩ := c_redexes hC.1 (fun s t hs hT => (hP.2.2 s t hs hT).1) 2044 x1 x2
  obtain ⟨r1, r2⟩ := rx_redexes hR.1 (hP.ok hCl) (by omega) hR.2.2.2.2 1842 x1 x2
  by_cases hx : (∀ s, s < 4 → x1 ≠ nI s) ∨ ∀ j, j ≤ 7 → x2 ≠ nI j
  · exact jn_ans hb hm hC hR hP hE (a1 hx) (r1 hx)
  · obtain ⟨s, hs, hx1⟩ : ∃ s, s < 4 ∧ x1 = nI s := (slot_cases x1).resolve_right (fun q => hx (Or.inl q))
    obtain ⟨j, hj, hx2⟩ : ∃ j, j ≤ 7 ∧ x2 = nI j := Classical.byContradiction (fun q => hx (Or.inr (fun j hj e => q ⟨j, hj, e⟩)))
    obtain ⟨a3, a4⟩ := a2 s j hs hj hx1 hx2
    obtain ⟨r3, r4⟩ := r2 s j hs hj hx1 hx2
    rcases none_or (T s) with hN | ⟨t, hT⟩
    · exact jn_ans hb hm hC hR hP hE (a3 hN) (r3 hN)
    · obtain ⟨M2, cr, e2, F2, R2, W2⟩ := r4 t hT
      exact jn_keep hb hm hC hE (a4 t hT) (Fq.refl (S := fun _ _ => False)) (fun a k q => q.elim) hC.1 hR hP e2 F2 (fun a k q => by unfold SSu SSq SSp SR STd STr at q; omega) ((F2.int (by unfold SSu SSq SSp SR STd STr; omega)).trans hR.2.2.2.2) R2 (by omega) W2 (by omega)
theorem j_alike (h : Jn k M) (x1 x2 : Int32) : Pr2 (Jn (k + 1)) (f_X10_alike 2047 0 x1 x2) (f_X11_alike 2047 89 x1 x2) M := by
  obtain ⟨c, cR, b, L, H, gf, T, ks, hC, hR, hP, hE, hb, hm⟩ := h
  have hCl := Inn_cls hC.1.2.2.1
  obtain ⟨a1, a2⟩ := c_alike hC.1 (fun s t hs hT => hP.ty hs hT) 2041 x1 x2
  obtain ⟨r1, r2⟩ := rx_alike hR.1 (hP.ok hCl) (by omega) (Nat.le_refl _) hR.2.2.2.2 (fun s t hs hT => hP.ty2 hs hT) 1639 x1 x2
  rcases slot_cases x1 with ⟨s1, hs1, hx1⟩ | hn1
  · obtain ⟨a3, a4⟩ := a2 s1 hs1 hx1
    obtain ⟨r3, r4⟩ := r2 s1 hs1 hx1
    rcases slot_cases x2 with ⟨s2, hs2, hx2⟩ | hn2
    · obtain ⟨a5, a6⟩ := a4 s2 hs2 hx2
      obtain ⟨r5, -⟩ := r4 s2 hs2 hx2
      rcases none_or (T s1) with hN | ⟨t1, hT1⟩
      · exact jn_ans hb hm hC hR hP hE (a5 (Or.inl hN)) (r5 (Or.inl hN))
      · rcases none_or (T s2) with hN | ⟨t2, hT2⟩
        · exact jn_ans hb hm hC hR hP hE (a5 (Or.inr hN)) (r5 (Or.inr hN))
        · obtain ⟨i1, z1, y1, w1⟩ := hP.2.2 s1 t1 hs1 hT1
          obtain ⟨i2, z2, y2, w2⟩ := hP.2.2 s2 t2 hs2 hT2
          obtain ⟨o1, ho1⟩ := NrmR.ex 60 i1 (w1.imp t1 i1 (fun _ _ _ _ _ => trivial))
          obtain ⟨o2, ho2⟩ := NrmR.ex 60 i2 (w2.imp t2 i2 (fun _ _ _ _ _ => trivial))
          obtain ⟨v, hv⟩ := AlO.ex o1 o2
          obtain ⟨M1, e1, F1, C1⟩ := a6 t1 t2 o1 o2 v hT1 hT2 ho1 ho2 hv
          have hS1 : ∀ a k, SAl a k → 10 ≤ a ∧ a < 89 := fun a k q => by unfold SAl SRa SAg SO at q; omega
          obtain ⟨hR1, hP1, hCl1⟩ := jn_ref hC hR hP F1 hS1
          obtain ⟨-, q2⟩ := rx_alike hR1.1 (hP1.ok hCl1) (by omega) (Nat.le_refl _) hR1.2.2.2.2 (fun s t hs hT => hP1.ty2 hs hT) 1639 x1 x2
          obtain ⟨M2, cr, e2, F2, h8, R2, W2⟩ := ((q2 s1 hs1 hx1).2 s2 hs2 hx2).2 t1 t2 o1 o2 v hT1 hT2 ho1 ho2 hv
          exact jn_keep hb hm hC hE e1 F1 (fun a k q => by unfold SAl SRa SAg SO at q; omega) C1 hR1 hP1 e2 F2 (fun a k q => by unfold SAr2 SNz SSu SSq SSp SR STd STr SKb at q; omega) h8 R2 (Nat.le_refl _) W2 (by omega)
    · exact jn_ans hb hm hC hR hP hE (a3 hn2) (r3 hn2)
  · exact jn_ans hb hm hC hR hP hE (a1 hn1) (r1 hn1)
theorem j_side (h : Jn k M) (x : Int32) : Pr2 (Jn (k + 1)) (f_X10_side 2047 0 x) (f_X11_side 2047 89 x) M := by
  obtain ⟨c, cR, b, L, H, gf, T, ks, hC, hR, hP, hE, hb, hm⟩ := h
  have hCl := Inn_cls hC.1.2.2.1
  obtain ⟨a1, a2⟩ := c_side hC.1 2041 x
  obtain ⟨r1, r2⟩ := rx_side hR.1 (hP.ok hCl) (by omega) hR.2.2.2.2 1639 x
  have hS1 : ∀ a k, SAl a k → 10 ≤ a ∧ a < 89 := fun a k q => by unfold SAl SRa SAg SO at q; omega
  have hSC : ∀ a k, SAl a k → 10 ≤ a ∧ a < 89 ∧ a ≠ 88 ∧ ¬ (a = 14 ∧ (k = 17 ∨ k = 18)) := fun a k q => by unfold SAl SRa SAg SO at q; omega
  have hSR : ∀ a k, SSi a k → 89 ≤ a ∧ ¬ (a = 89 ∧ (k = 27 ∨ k = 47 ∨ k = 32 ∨ k = 33)) ∧ a ≠ 109 ∧ a ≠ 117 := fun a k q => by unfold SSi SNz SSu SSq SSp SR STd STr at q; omega
  have h8' : ∀ {M1 M2 : Mem}, Fr SSi M1 M2 → M1.2.2.1 89 8 = 0 → M2.2.2.1 89 8 = 0 := fun F h => (F.int (by unfold SSi SNz SSu SSq SSp SR STd STr; omega)).trans h
  rcases slot_cases x with ⟨s, hs, hx⟩ | hn
  · obtain ⟨a3, a4⟩ := a2 s hs hx
    rcases none_or (T s) with hN | ⟨t, hT⟩
    · exact jn_ans hb hm hC hR hP hE (a3 hN) ((r2 s hs hx).1 hN)
    · obtain ⟨ht, hz, y, hw⟩ := hP.2.2 s t hs hT
      obtain ⟨o, ho⟩ := NrmR.ex 60 ht (hw.imp t ht (fun _ _ _ _ _ => trivial))
      obtain ⟨a5, a6⟩ := a4 t y o hT ht (Wc.inn ht hw) ho
      have go : ∀ {M1 : Mem} {v : Int32}, f_X10_side 2047 0 x M = some (v, M1) → Fq SAl M M1 → ClS M1 c H gf T → (∀ {CI : Fm → Prop} {cR : Nat}, RfS M1 cR H gf T CI 11000 → OkA CI H gf T → M1.2.2.1 89 8 = 0 → Wc (OkF CI) H.length (hF H) t 0 gN 0 y → ∃ M2 c2, f_X11_side 2047 89 x M1 = some (v, M2) ∧ Fr SSi M1 M2 ∧ RfS M2 c2 H gf T CI 8191 ∧ WkG M2 c2 CI 0) → Pr2 (Jn (k + 1)) (f_X10_side 2047 0 x) (f_X11_side 2047 89 x) M := by
        intro M1 v e1 F1 C1 hr
        obtain ⟨hR1, hP1, hCl1⟩ := jn_ref hC hR hP F1 hS1
        have hw1 : Wc (OkF (Inn M1 c)) H.length (hF H) t 0 gN 0 y := hw.imp t ht (fun i z _ _ q => q.ci (Inn.cls F1 (fun a k q => (hS1 _ _ q).1)))
        obtain ⟨M2, cr, e2, F2, R2, W2⟩ := hr hR1.1 (hP1.ok hCl1) hR1.2.2.2.2 hw1
        exact jn_keep hb hm hC hE e1 F1 hSC C1 hR1 hP1 e2 F2 hSR (h8' F2 hR1.2.2.2.2) R2 (by omega) W2 (by omega)
      by_cases hk : kdf y = 11
      · obtain ⟨a7, a8⟩ := a6 hk
        rcases none_or o with hq | ⟨r, hq⟩
        · obtain ⟨M1, e1, F1, C1⟩ := a7 hq
          exact go e1 F1 C1 (fun g1 g2 g3 g4 => ((((rx_side g1 g2 (by omega) g3 1639 x).2 s hs hx).2 t y o hT g4 ho).2 hk).1 hq)
        · obtain ⟨M1, e1, F1, C1⟩ := a8 r hq
          exact go e1 F1 C1 (fun g1 g2 g3 g4 => ((((rx_side g1 g2 (by omega) g3 1639 x).2 s hs hx).2 t y o hT g4 ho).2 hk).2 r hq)
      · obtain ⟨M1, e1, F1, C1⟩ := a5 hk
        exact go e1 F1 C1 (fun g1 g2 g3 g4 => (((rx_side g1 g2 (by omega) g3 1639 x).2 s hs hx).2 t y o hT g4 ho).1 hk)
  · exact jn_ans hb hm hC hR hP hE (a1 hn) (r1 hn)
theorem j_cut (h : Jn k M) (x1 x2 x3 x4 : Int32) : Pr2 (Jn (k + 1)) (f_X10_cut 2047 0 x1 x2 x3 x4) (f_X11_cut 2047 89 x1 x2 x3 x4) M := by
  obtain ⟨c, cR, b, L, H, gf, T, ks, hC, hR, hP, hE, hb, hm⟩ := h
  have hCl := Inn_cls hC.1.2.2.1
  obtain ⟨a1, a2⟩ := c_cut hC.1 (fun s t hs hT => hP.ty hs hT) 2041 x1 x2 x3 x4
  obtain ⟨r1, r2⟩ := rx_cut hR.1 (hP.ok hCl) (by omega) hR.2.2.2.2 (fun s t hs hT => hP.ty2 hs hT) 1641 x1 x2 x3 x4
  by_cases hx : (∀ s, s < 4 → x1 ≠ nI s) ∨ (∀ j, j < H.length → x2 ≠ nI j) ∨ (∀ s, s < 4 → x3 ≠ nI s) ∨ (∀ s, s < 4 → x4 ≠ nI s)
  · exact jn_ans hb hm hC hR hP hE (a1 hx) (r1 hx)
  · obtain ⟨s1, hs1, hx1⟩ : ∃ s, s < 4 ∧ x1 = nI s := (slot_cases x1).resolve_right (fun q => hx (Or.inl q))
    obtain ⟨j, hj, hx2⟩ : ∃ j, j < H.length ∧ x2 = nI j := Classical.byContradiction (fun q => hx (Or.inr (Or.inl (fun j hj e => q ⟨j, hj, e⟩))))
    obtain ⟨s3, hs3, hx3⟩ : ∃ s, s < 4 ∧ x3 = nI s := (slot_cases x3).resolve_right (fun q => hx (Or.inr (Or.inr (Or.inl q))))
    obtain ⟨s4, hs4, hx4⟩ : ∃ s, s < 4 ∧ x4 = nI s := (slot_cases x4).resolve_right (fun q => hx (Or.inr (Or.inr (Or.inr q))))
    obtain ⟨a3, a4⟩ := a2 s1 j s3 s4 hs1 hj hs3 hs4 hx1 hx2 hx3 hx4
    obtain ⟨r3, -⟩ := r2 s1 j s3 s4 hs1 hj hs3 hs4 hx1 hx2 hx3 hx4
    have hSR : ∀ a k, SCr a k → 89 ≤ a ∧ ¬ (a = 89 ∧ (k = 27 ∨ k = 47 ∨ k = 32 ∨ k = 33)) ∧ a ≠ 109 ∧ a ≠ 117 := fun a k q => by unfold SCr SSu SSq SSp SR STd STr at q; omega
    have h8' : ∀ {M1 M2 : Mem}, Fr SCr M1 M2 → M1.2.2.1 89 8 = 0 → M2.2.2.1 89 8 = 0 := fun F h => (F.int (by unfold SCr SSu SSq SSp SR STd STr; omega)).trans h
    rcases none_or (T s1) with hN | ⟨t, hT1⟩
    · exact jn_ans hb hm hC hR hP hE (a3 (Or.inl hN)) (r3 (Or.inl hN))
    · rcases none_or (T s3) with hN | ⟨s, hT3⟩
      · exact jn_ans hb hm hC hR hP hE (a3 (Or.inr hN)) (r3 (Or.inr hN))
      · obtain ⟨it, zt, yt, wt⟩ := hP.2.2 s1 t hs1 hT1
        obtain ⟨is, zs, y, ws⟩ := hP.2.2 s3 s hs3 hT3
        obtain ⟨a5, a6⟩ := a4 t s y hT1 hT3 (Wc.inn is ws)
        have ref1 : ∀ {M1 : Mem} {S : Nat → Nat → Prop}, Fq S M M1 → (∀ a k, S a k → 10 ≤ a ∧ a < 89) → RfA M1 cR b L H gf T ks (Inn M1 c) ∧ JnP (Inn M1 c) H gf T ∧ OkA (Inn M1 c) H gf T ∧ Wc (OkF (Inn M1 c)) H.length (hF H) s 0 gN 0 y ∧ Wc (OkF (Inn M1 c)) H.length (hF H) t 0 gN 0 yt := by
          intro M1 S F1 hS1
          obtain ⟨hR1, hP1, hCl1⟩ := jn_ref hC hR hP F1 hS1
          have hI := Inn.cls (c := c) F1 (fun a k q => (hS1 _ _ q).1)
          exact ⟨hR1, hP1, hP1.ok hCl1, ws.imp s is (fun i z _ _ q => q.ci hI), wt.imp t it (fun i z _ _ q => q.ci hI)⟩
        have hS1 : ∀ a k, SCu a k → 10 ≤ a ∧ a < 89 := fun a k q => by unfold SCu SAg SO at q; omega
        have hS2 : ∀ a k, (SCu a k ∨ SO (25 + 3 * s4) a k) → 10 ≤ a ∧ a < 89 := fun a k q => by unfold SCu SAg SO at q; omega
        by_cases hy : y = hF H j
        · obtain ⟨a7, a8⟩ := a6 hy
          by_cases hbig : 200 < sz (hbs j s t 0)
          · obtain ⟨M1, e1, F1, C1⟩ := a7 hbig
            obtain ⟨hR1, hP1, hO1, ws1, wt1⟩ := ref1 F1 hS1
            obtain ⟨M2, cr, e2, F2, R2, W2⟩ := ((((rx_cut hR1.1 hO1 (by omega) hR1.2.2.2.2 (fun s t hs hT => hP1.ty2 hs hT) 1641 x1 x2 x3 x4).2 s1 j s3 s4 hs1 hj hs3 hs4 hx1 hx2 hx3 hx4).2 t s y hT1 hT3 ws1).2 hy).1 hbig
            exact jn_keep hb hm hC hE e1 F1 (fun a k q => by unfold SCu SAg SO at q; omega) C1 hR1 hP1 e2 F2 hSR (h8' F2 hR1.2.2.2.2) R2 (by omega) W2 (by omega)
          · obtain ⟨M1, e1, F1, C1⟩ := a8 (by omega)
            obtain ⟨hR1, hP1, hO1, ws1, wt1⟩ := ref1 F1 hS2
            obtain ⟨M2, cr, e2, F2, R2, W2⟩ := ((((rx_cut hR1.1 hO1 (by omega) hR1.2.2.2.2 (fun s t hs hT => hP1.ty2 hs hT) 1641 x1 x2 x3 x4).2 s1 j s3 s4 hs1 hj hs3 hs4 hx1 hx2 hx3 hx4).2 t s y hT1 hT3 ws1).2 hy).2 (by omega)
            exact jn_keep hb hm hC hE e1 F1 (fun a k q => by unfold SCu SAg SO at q; omega) C1 hR1 (hP1.set (isT_hbs is t it 0) (by omega) (Wt_hbs is (by rw [← hy]; exact ws1) t it wt1) ((hP1.2.1.2 s1 t hs1 hT1).cut (hP1.2.1.2 s3 s hs3 hT3) it is ws1 hy)) e2 F2 hSR (h8' F2 hR1.2.2.2.2) R2 (by omega) W2 (by omega)
        · obtain ⟨M1, e1, F1, C1⟩ := a5 hy
          obtain ⟨hR1, hP1, hO1, ws1, wt1⟩ := ref1 F1 hS1
          obtain ⟨M2, cr, e2, F2, R2, W2⟩ := (((rx_cut hR1.1 hO1 (by omega) hR1.2.2.2.2 (fun s t hs hT => hP1.ty2 hs hT) 1641 x1 x2 x3 x4).2 s1 j s3 s4 hs1 hj hs3 hs4 hx1 hx2 hx3 hx4).2 t s y hT1 hT3 ws1).1 hy
          exact jn_keep hb hm hC hE e1 F1 (fun a k q => by unfold SCu SAg SO at q; omega) C1 hR1 hP1 e2 F2 hSR (h8' F2 hR1.2.2.2.2) R2 (by omega) W2 (by omega)
end JC
