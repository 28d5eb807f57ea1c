/-! THE DECIDER in the class: provableFrom -/
theorem cP_cut {S : Nat → Prop} {c : Nat} (h : ∀ v, S v → v < c) : ∀ z, c ≤ z → cP S z = cP S c := by
  intro z hz
  obtain ⟨d, rfl⟩ : ∃ d, z = c + d := ⟨z - c, by omega⟩
  clear hz
  induction d with
  | zero => rfl
  | succ d ih =>
    rw [← Nat.add_assoc, cP_n (fun q => by have := h _ q; omega)]
    exact ih
def SDv (a k : Nat) : Prop := S28p a k ∨ SDc a k
theorem SDv_is {a k : Nat} (q : SDv a k) : (a = 2 ∧ k = 8) ∨ a = 8 ∨ (a = 74 ∧ k = 6) ∨ (75 ≤ a ∧ a ≤ 78) ∨ (80 ≤ a ∧ a ≤ 86) := by
  unfold SDv S28p S28 S75 SDc at q
  omega
section PF2
variable {M M1 M2 : Mem} {c cR : Nat} {b : Nat → Nat} {L : Nat} {H : List (Nat × Fm)} {gf G : Fm} {T : Nat → Option Tm} {ks : List Nat} {k kk g0 : Nat}
theorem TabC.pv (hT : TabC M c) (F1 : Fr SDv M M1) : TabC M1 c ∧ ∀ i, dC M1 i = dC M i := hT.fr F1 (fun q => by have := SDv_is q; omega) (fun _ q => by have := SDv_is q; omega) (fun _ q => by have := SDv_is q; omega) (fun _ q => by have := SDv_is q; omega) (fun _ q => by have := SDv_is q; omega) (fun _ q => by have := SDv_is q; omega) (fun _ q => by have := SDv_is q; omega)
theorem ClS.pv (h : ClS M c H gf T) (F : Fr SDv M M1) : ClS M1 c H gf T := by
  obtain ⟨T1, d1⟩ := h.2.2.1.pv F
  exact h.mq F.q (fun a k q => by have := SDv_is q; omega) T1 (fun i _ => d1 i) (Nat.le_refl _) (fun k _ => by rw [F.2.2.1])
set_option maxHeartbeats 1000000 in
theorem c_provableFrom (h : ClS M c H gf T) (hHw : ∀ x, x ∈ H → wdf x.2 ≤ 60) (hgw : wdf gf ≤ 60) (hg0 : g0 < c) (hG : dC M g0 = G) (hGw : wdf G ≤ wdf gf) (hm : MkC kk M) (hkk : kk < 900) (n : Nat) : (40 < wdf gf + hws H → f_X10_provableFrom (n + 90) 0 (nI g0) M = some (-4, M)) ∧ (wdf gf + hws H ≤ 40 → ∃ v M1, f_X10_provableFrom (n + 90) 0 (nI g0) M = some (v, M1) ∧ ((v = 1 ∧ Ent (hyF H) G) ∨ (v = 0 ∧ ¬ Ent (hyF H) G)) ∧ Fr SDv M M1 ∧ MkC (kk + 1) M1) := by
  obtain ⟨hW, -, hT, hH, hGl, -, -⟩ := h
  obtain ⟨g, g1, g2, g3, g4⟩ := hGl
  obtain ⟨m, hmn⟩ : ∃ m, m = n + 89 := ⟨_, rfl⟩
  have h6 := hH.2.1
  have hl := hws_le H hHw
  have hc := hT.2.1
  have y0 := c_wordsInAll hW hH m
  have hO10 : fO M 10 2 := ⟨by rw [hW.1]; omega, s_10 hW⟩
  have ea : nI (hws H) + nI (wdf gf) = nI (hws H + wdf gf) := (Int32.ofNat_add _ _).symm
  rw [show n + 90 = m + 1 by omega]
  constructor
  · intro q
    have q' : (nI (hws H + wdf gf) ≤ (40 : Int32)) = False := eq_false (by rw [show (40 : Int32) = nI 40 from rfl, nI_le_ (by omega) (by omega)]; omega)
    show T_X10_provableFrom_0 (fun v M => some (v, M)) none (m + 1) 0 (nI g0) M = _
    unfold T_X10_provableFrom_0
    simp only [↓gd_pos (fO_0 hW), ↓bnd_of (r_0_3 hW), ↓gd_pos hO10, ↓bnd2_of (show cal (m + 1) (fun zz => f_X2_wordsInAll zz 10 M) = _ from y0), g4, ea, q', ↓reduceIte]
  · intro q
    have q' : (nI (hws H + wdf gf) ≤ (40 : Int32)) = True := eq_true (by rw [show (40 : Int32) = nI 40 from rfl, nI_le_ (by omega) (by omega)]; omega)
    obtain ⟨M1, y1, F1, P1, m1, -⟩ := c_collectG hW hT hH hg0 hG hHw (show wdf G ≤ 60 by omega) hm hkk (n + 86)
    rw [show n + 86 + 3 = m by omega] at y1
    have F1' : Fr SDv M M1 := F1.mono (fun a k q => Or.inl q)
    have hW1 := F1.Wd hW
    obtain ⟨T1, d1⟩ := hT.pv F1'
    have H1 : HyC M1 10 c H := hH.up F1' (fun a k q => by have := SDv_is q; omega) (fun i _ => d1 i) (Nat.le_refl _)
    have hSe : SPt M1 c H G = SPt M c H G := by
      funext v
      unfold SPt
      rw [d1]
    have hcl : ClP M1 c (SPt M c H G) := by
      rw [← hSe]
      exact SPt.cl T1
    have h40 : cP (SPt M c H G) 5200 ≤ 40 := by
      rw [cP_cut (c := c) (fun v hv => hv.1) 5200 (by omega), cP_iff c (R := fun v => StF H G (dC M v)) (fun v hv => ⟨fun z => z.2, fun z => ⟨hv, z⟩⟩)]
      have := parts_w hT (H := H) (gf := G)
      omega
    obtain ⟨v, M2, y2, k2, F2⟩ := c_decide (g0 := g0) hW1 T1 H1 P1 hcl h40 (fun u hu ⟨x, hx, e⟩ => by
      obtain ⟨j, hj, rfl⟩ := List.getElem_of_mem hx
      exact ⟨hu, Or.inr ⟨j, hj, by rw [← d1, e]; exact prt_self _⟩⟩) ⟨hg0, Or.inl (by rw [hG]; exact prt_self _)⟩ (n + 3)
    rw [show n + 3 + 86 = m by omega] at y2
    rw [d1, hG] at k2
    refine ⟨v, M2, ?_, k2, F1'.trans (F2.mono (fun a k q => Or.inr q)), m1.fq F2.q (fun q => by unfold SDc at q; omega) (fun i q => by unfold SDc at q; omega)⟩
    show T_X10_provableFrom_0 (fun v M => some (v, M)) none (m + 1) 0 (nI g0) M = _
    unfold T_X10_provableFrom_0
    have hO80 := fO80 hW1
    have r12 : M1.2.2.2.2 0 12 = some 80 := by first | exact r_0_12 hW1
    rcases k2 with ⟨rfl, -⟩ | ⟨rfl, -⟩
    · simp only [↓gd_pos (fO_0 hW), ↓bnd_of (r_0_3 hW), ↓gd_pos hO10, ↓bnd2_of (show cal (m + 1) (fun zz => f_X2_wordsInAll zz 10 M) = _ from y0), g4, ea, q', ↓reduceIte, ↓bnd_of (r_0_11 hW), ↓gd_pos (fO74 hW), ↓bnd2_of (show cal (m + 1) (fun zz => f_X5_collect zz 74 10 (nI g0) M) = _ from y1), ↓gd_pos (fO_0 hW1), ↓bnd_of r12, ↓bnd_of (r_0_3 hW1), ↓gd_pos hO80, ↓bnd2_of (show cal (m + 1) (fun zz => f_X0_decide zz 80 10 (nI g0) M1) = _ from y2), show ((1 : Int32) = 0) = False from eq_false (by decide)]
    · simp only [↓gd_pos (fO_0 hW), ↓bnd_of (r_0_3 hW), ↓gd_pos hO10, ↓bnd2_of (show cal (m + 1) (fun zz => f_X2_wordsInAll zz 10 M) = _ from y0), g4, ea, q', ↓reduceIte, ↓bnd_of (r_0_11 hW), ↓gd_pos (fO74 hW), ↓bnd2_of (show cal (m + 1) (fun zz => f_X5_collect zz 74 10 (nI g0) M) = _ from y1), ↓gd_pos (fO_0 hW1), ↓bnd_of r12, ↓bnd_of (r_0_3 hW1), ↓gd_pos hO80, ↓bnd2_of (show cal (m + 1) (fun zz => f_X0_decide zz 80 10 (nI g0) M1) = _ from y2)]
end PF2
