/-! AGAINST, CLASSICAL: the calls, over the invariant -/
def SAm (a k : Nat) : Prop := S28p a k ∨ S79 a k
section JA1
variable {M M1 M2 : Mem} {c cR : Nat} {b : Nat → Nat} {L : Nat} {H : List (Nat × Fm)} {gf : Fm} {T : Nat → Option Tm} {ks : List Nat} {k kk : Nat}
theorem SAm_is {a k : Nat} (q : SAm a k) : (a = 2 ∧ k = 8) ∨ a = 8 ∨ (a = 74 ∧ k = 6) ∨ (75 ≤ a ∧ a ≤ 79) := by
  unfold SAm S28p S28 S75 S79 at q
  omega
theorem TabC.am (hT : TabC M c) (F1 : Fr SAm M M1) : TabC M1 c ∧ ∀ i, dC M1 i = dC M i := hT.fr F1 (fun q => by have := SAm_is q; omega) (fun _ q => by have := SAm_is q; omega) (fun _ q => by have := SAm_is q; omega) (fun _ q => by have := SAm_is q; omega) (fun _ q => by have := SAm_is q; omega) (fun _ q => by have := SAm_is q; omega) (fun _ q => by have := SAm_is q; omega)
theorem ClS.am (h : ClS M c H gf T) (F : Fr SAm M M1) : ClS M1 c H gf T := by
  obtain ⟨T1, d1⟩ := h.2.2.1.am F
  exact h.mq F.q (fun a k q => by have := SAm_is q; omega) T1 (fun i _ => d1 i) (Nat.le_refl _) (fun k _ => by rw [F.2.2.1])
set_option maxHeartbeats 1000000 in
theorem c_against (h : ClS M c H gf T) (hHw : ∀ x, x ∈ H → wdf x.2 ≤ 60) (hgw : wdf gf ≤ 60) (hm : MkC kk M) (hkk : kk < 900) (n : Nat) : ∃ M1, f_X10_against (n + 4) 0 M = some (agF H gf 256 0, M1) ∧ Fr SAm M M1 ∧ MkC (kk + 1) M1 := by
  obtain ⟨hW, -, hT, hH, hG, -, -⟩ := h
  obtain ⟨m, hmn⟩ : ∃ m, m = n + 3 := ⟨_, rfl⟩
  obtain ⟨M1, y1, F1, P1, m1, h4⟩ := c_collect hW hT hH hG hHw hgw hm hkk n
  rw [← hmn] at y1
  have F1' : Fr SAm M M1 := F1.mono (fun a k q => Or.inl q)
  have hW1 := F1.Wd hW
  obtain ⟨T1, d1⟩ := hT.am F1'
  have hc := hT.2.1
  obtain ⟨g, g1, g2, g3, -⟩ := hG
  have H1 : HyC M1 10 c H := hH.up F1' (fun a k q => by have := SAm_is q; omega) (fun i _ => d1 i) (Nat.le_refl _)
  have hSe : SPt M1 c H gf = SPt M c H gf := by
    funext v
    unfold SPt
    rw [d1]
  have hcl : ClP M1 c (SPt M c H gf) := by
    rw [← hSe]
    exact SPt.cl T1
  obtain ⟨M2, y2, F2⟩ := la_2 (n := n) (gf := gf) hW1 T1 hcl P1 h4 (fun v hv ⟨x, hx, e⟩ => by
    obtain ⟨j, hj, rfl⟩ := List.getElem_of_mem hx
    exact ⟨hv, Or.inr ⟨j, hj, by rw [← d1, ← e]; exact prt_self _⟩⟩) H1 (g := g) ⟨g1, Or.inl (by rw [g3]; exact prt_self _)⟩ (by rw [d1]; exact g3) 4 0 (by omega) M1 Fr.refl
  have y2' : f_X5_leastAgainst m 74 10 (M1.2.2.1 0 16) M1 = some (agF H gf 256 0, M2) := by
    rw [F1'.int (fun q => by have := SAm_is q; omega), g2, hmn]
    exact (ge_X5_leastAgainst_0 (n + 3) 74 10 (nI g) M1).trans y2
  refine ⟨M2, ?_, F1'.trans (F2.mono (fun a k q => Or.inr q)), m1.fq F2.q (fun q => by unfold S79 at q; omega) (fun i q => by unfold S79 at q; omega)⟩
  rw [show n + 4 = m + 1 by omega]
  show T_X10_against_0 (fun v M => some (v, M)) none (m + 1) 0 M = _
  unfold T_X10_against_0
  simp only [↓gd_pos (fO_0 hW), ↓bnd_of (r_0_11 hW), ↓bnd_of (r_0_3 hW), ↓gd_pos (fO74 hW), ↓bnd2_of (show cal (m + 1) (fun zz => f_X5_collect zz 74 10 (M.2.2.1 0 16) M) = _ from y1), ↓gd_pos (fO_0 hW1), ↓bnd_of (r_0_11 hW1), ↓bnd_of (r_0_3 hW1), ↓gd_pos (fO74 hW1), ↓bnd2_of (show cal (m + 1) (fun zz => f_X5_leastAgainst zz 74 10 (M1.2.2.1 0 16) M1) = _ from y2')]
theorem jn_am {f g : Mem → Option (Int32 × Mem)} {v : Int32} (hk : k < 512) (hb : 1240 * c + 601 * L ≤ 12020 * k + 11160) (hC : ClA M c b L H gf T ks) (hR : RfA M cR b L H gf T ks (Inn M c)) (hP : JnP (Inn M c) H gf T) (hE : FlE M) (e1 : f M = some (v, M1)) (F1 : Fr SAm M M1) (m1 : MkC (k + 1) M1) (e2 : (RfA M1 cR b L H gf T ks (Inn M1 c)) → g M1 = some (v, wI M1 89 0 0)) : Pr2 (Jn (k + 1)) f g M := by
  have hS1 : ∀ a k, SAm a k → a < 89 ∧ a ≠ 88 ∧ a ≠ 14 ∧ a ≠ 0 ∧ a ≠ 1 := fun a k q => by have := SAm_is q; omega
  have C1 := hC.1.am F1
  have d1 := (hC.1.2.2.1.am F1).2
  have hI : ∀ f, Inn M c f → Inn M1 c f := fun f ⟨v, v1, v2⟩ => ⟨v, v1, by rw [d1]; exact v2⟩
  have hR1 := hR.cls F1.q (fun a k q => (hS1 _ _ q).1) hI
  have hP1 := hP.ci hI
  have hC1 : ClA M1 c b L H gf T ks := hC.mk C1 F1.q (fun a k q => by have := hS1 _ _ q; omega)
  have F2 : Fr (fun a k => a = 89 ∧ k = 0) M1 (wI M1 89 0 0) := Fr.refl.wI ⟨rfl, rfl⟩ _
  have hT1 := hR1.2.1
  have hK1 := hR1.2.2.1
  refine ⟨v, M1, wI M1 89 0 0, e1, fO_89 C1.1, e2 hR1, Jn.mk2 (cR := cR) (by omega) m1 hC1 F2 (fun a k q => by omega) ⟨hR1.1.w F2 (fun a k q => by omega), ⟨(F2.int (by omega)).trans hT1.1, hT1.2.1, fun j hj => ⟨(hT1.2.2 j hj).1, (F2.int (by omega)).trans (hT1.2.2 j hj).2⟩⟩, ⟨(F2.int (by omega)).trans hK1.1, hK1.2.1, fun j y hj => (F2.int (by omega)).trans (hK1.2.2 j y hj)⟩, show WkG (wI M1 89 0 0) cR (Inn M1 c) 121 from hR1.2.2.2.1, (F2.int (by omega)).trans hR1.2.2.2.2⟩ hP1 ⟨?_, ?_⟩⟩
  · rw [F2.int (by omega), F2.int (by omega), F1.int (fun q => by have := hS1 _ _ q; omega), F1.int (fun q => by have := hS1 _ _ q; omega)]
    exact hE.1
  · rw [F2.int (by omega), F2.int (by omega), F1.int (fun q => by have := hS1 _ _ q; omega), F1.int (fun q => by have := hS1 _ _ q; omega)]
    exact hE.2
theorem r_againstNow (hR : RfA M cR b L H gf T ks (Inn M c)) (hP : JnP (Inn M c) H gf T) (n : Nat) : f_X11_againstNow (n + 202) 89 (wI M 89 0 0) = some (agF H gf 256 0, wI M 89 0 0) := by
  have F2 : Fr (fun a k => a = 89 ∧ k = 0) M (wI M 89 0 0) := Fr.refl.wI ⟨rfl, rfl⟩ _
  have h0 := hR.1.w F2 (fun a k q => by omega)
  exact rx_against h0.1 h0.2.1 h0.2.2.1 (fun x hx => (hP.1 x hx).1.2) h0.2.2.2.1 hP.2.1.1.1.2 n
theorem j_against (hk : k < 512) (h : Jn k M) : Pr2 (Jn (k + 1)) (f_X10_against 2047 0) (f_X11_against 2047 89) M := by
  obtain ⟨c, cR, b, L, H, gf, T, ks, hC, hR, hP, hE, hb, hm⟩ := h
  obtain ⟨M1, e1, F1, m1⟩ := c_against hC.1 (fun x hx => (hP.1 x hx).2.1) hP.2.1.1.2.1 hm (by omega) 2043
  have d1 := (hC.1.2.2.1.am F1).2
  have hI : ∀ f, Inn M c f → Inn M1 c f := fun f ⟨v, v1, v2⟩ => ⟨v, v1, by rw [d1]; exact v2⟩
  refine jn_am hk hb hC hR hP hE e1 F1 m1 (fun hR1 => ?_)
  have y := r_againstNow hR1 (hP.ci hI) 1844
  obtain ⟨m, hmm⟩ : ∃ m, m = 2046 := ⟨_, rfl⟩
  rw [show 1844 + 202 = m by omega] at y
  rw [show 2047 = m + 1 by omega]
  show T_X11_against_0 (fun v M => some (v, M)) none (m + 1) 89 M1 = _
  unfold T_X11_against_0
  simp only [↓gd_pos (fO_89 hR1.1.1), ↓bnd2_of (show cal (m + 1) (fun zz => f_X11_againstNow zz 89 (wI M1 89 0 0)) = _ from y)]
theorem j_classical (hk : k < 512) (h : Jn k M) : Pr2 (Jn (k + 1)) (f_X10_classical 2047 0) (f_X11_classical 2047 89) M := by
  obtain ⟨c, cR, b, L, H, gf, T, ks, hC, hR, hP, hE, hb, hm⟩ := h
  obtain ⟨M1, e1, F1, m1⟩ := c_against hC.1 (fun x hx => (hP.1 x hx).2.1) hP.2.1.1.2.1 hm (by omega) 2042
  have d1 := (hC.1.2.2.1.am F1).2
  have hI : ∀ f, Inn M c f → Inn M1 c f := fun f ⟨v, v1, v2⟩ => ⟨v, v1, by rw [d1]; exact v2⟩
  obtain ⟨m, hmm⟩ : ∃ m, m = 2046 := ⟨_, rfl⟩
  rw [show 2042 + 4 = m by omega] at e1
  have hW := hC.1.1
  have eg : ∃ v, (if agF H gf 256 0 = (-1 : Int32) then (1 : Int32) else 0) = v := ⟨_, rfl⟩
  obtain ⟨v, hv⟩ := eg
  refine jn_am (M1 := M1) (v := v) hk hb hC hR hP hE ?_ F1 m1 (fun hR1 => ?_)
  · rw [show 2047 = m + 1 by omega]
    show T_X10_classical_0 (fun v M => some (v, M)) none (m + 1) 0 M = _
    unfold T_X10_classical_0
    simp only [↓gd_pos (fO_0 hW), ↓bnd2_of (show cal (m + 1) (fun zz => f_X10_against zz 0 M) = _ from e1)]
    rw [← hv]
    by_cases q : agF H gf 256 0 = (-1 : Int32)
    · rw [if_pos q, if_pos q]
    · rw [if_neg q, if_neg q]
  · have y := r_againstNow hR1 (hP.ci hI) 1844
    rw [show 1844 + 202 = m by omega] at y
    rw [show 2047 = m + 1 by omega]
    show T_X11_classical_0 (fun v M => some (v, M)) none (m + 1) 89 M1 = _
    unfold T_X11_classical_0
    simp only [↓gd_pos (fO_89 hR1.1.1), ↓bnd2_of (show cal (m + 1) (fun zz => f_X11_againstNow zz 89 (wI M1 89 0 0)) = _ from y)]
    rw [← hv]
    by_cases q : agF H gf 256 0 = (-1 : Int32)
    · rw [if_pos q, if_pos q]
    · rw [if_neg q, if_neg q]
end JA1
