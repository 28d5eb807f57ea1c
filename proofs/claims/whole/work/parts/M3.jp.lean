/-! PROVABLE, BYSIDE: the calls, over the invariant -/
def SPb (a k : Nat) : Prop := (a = 89 ∧ (k = 0 ∨ k = 7 ∨ k = 16 ∨ k = 24)) ∨ (90 ≤ a ∧ a ≤ 95) ∨ a = 98 ∨ a = 103 ∨ a = 106 ∨ a = 125
section JP3
variable {M M0 M1 M2 : Mem} {c c0 c2 cR : Nat} {b : Nat → Nat} {L : Nat} {H : List (Nat × Fm)} {gf G : Fm} {T : Nat → Option Tm} {ks : List Nat} {k kk g0 : Nat} {CI : Fm → Prop}
theorem jn_pv {f g : Mem → Option (Int32 × Mem)} {v : Int32} (hb : 1240 * c + 601 * L ≤ 12020 * k + 11160) (hC : ClA M c b L H gf T ks) (hE : FlE M) (e1 : f M = some (v, M1)) (F1 : Fr SDv M M1) (m1 : MkC (k + 1) M1) (hR1 : RfA M1 cR b L H gf T ks (Inn M1 c)) (hP1 : JnP (Inn M1 c) H gf T) (e2 : g M1 = some (v, M2)) (F2 : Fr SPb M1 M2) (R2 : RfS M2 c2 H gf T (Inn M1 c) 11000) (w2 : M2.2.2.1 89 24 = 0) : Pr2 (Jn (k + 1)) f g M := by
  have hS1 : ∀ a k, SDv a k → a < 89 ∧ a ≠ 88 ∧ a ≠ 14 ∧ a ≠ 0 ∧ a ≠ 1 := fun a k q => by have := SDv_is q; omega
  have hS2 : ∀ a k, SPb a k → 89 ≤ a ∧ ¬ (a = 89 ∧ (k = 8 ∨ k = 27 ∨ k = 32 ∨ k = 33 ∨ k = 47)) ∧ a ≠ 109 ∧ a ≠ 117 := fun a k q => by unfold SPb at q; omega
  have C1 := hC.1.pv F1
  have hC1 : ClA M1 c b L H gf T ks := hC.mk C1 F1.q (fun a k q => by have := hS1 _ _ q; omega)
  refine ⟨v, M1, M2, e1, fO_89 C1.1, e2, Jn.mk2 (cR := c2) (by omega) m1 hC1 F2 (fun a k q => (hS2 _ _ q).1) (RfA.mk R2 (Nat.le_refl _) hR1 F2 (fun a k q => by have := hS2 _ _ q; omega) (z := 0) ⟨0, by omega, w2, fun i hi => absurd hi (Nat.not_lt_zero _)⟩ (by omega)) hP1 ⟨?_, ?_⟩⟩
  · rw [F2.int (fun q => by have := hS2 _ _ q; omega), F2.int (fun q => by have := hS2 _ _ q; omega), F1.int (fun q => by have := hS1 _ _ q; omega), F1.int (fun q => by have := hS1 _ _ q; omega)]
    exact hE.1
  · rw [F2.int (fun q => by have := hS2 _ _ q; omega), F2.int (fun q => by have := hS2 _ _ q; omega), F1.int (fun q => by have := hS1 _ _ q; omega), F1.int (fun q => by have := hS1 _ _ q; omega)]
    exact hE.2
theorem r_tidied (hR1 : RfA M1 cR b L H gf T ks CI) (hP1 : JnP CI H gf T) (hCl : Cls CI) : ∃ M0 c0, f_X11_tidies 2046 89 (wI (wI M1 89 0 0) 89 24 0) = some ((), M0) ∧ Fr SPb M1 M0 ∧ M0.2.2.1 89 24 = 0 ∧ RfS M0 c0 H gf T CI 8191 ∧ c0 ≤ 8191 := by
  have F0' : Fr (fun a k => a = 89 ∧ (k = 0 ∨ k = 24)) M1 (wI (wI M1 89 0 0) 89 24 0) := (Fr.refl.wI ⟨rfl, by omega⟩ _).wI ⟨rfl, by omega⟩ _
  have hR0 := hR1.1.w F0' (fun a k q => by omega)
  have h80 : (wI (wI M1 89 0 0) 89 24 0).2.2.1 89 8 = 0 := (F0'.int (by omega)).trans hR1.2.2.2.2
  have h24 : (wI (wI M1 89 0 0) 89 24 0).2.2.1 89 24 = 0 := by simp [up2_if]
  obtain ⟨c0, M0, y0, F0, R0, -, f0, -, -⟩ := tid_any hR0 (hP1.ok hCl) (by omega) (z := 0) (by omega) ⟨0, by omega, h24, fun i hi => by omega⟩ (Or.inl h80) 1843
  exact ⟨M0, c0, y0, (F0'.mono (fun a k q => by unfold SPb; omega)).trans (F0.mono (fun a k q => by unfold STd at q; unfold SPb; omega)), (F0.int (by unfold STd; omega)).trans h24, ⟨R0.1, R0.2.1, R0.2.2.1, R0.2.2.2.1, R0.2.2.2.2.1, (f0 h80).1⟩, (f0 h80).2.2 rfl⟩
theorem r_pvBy (R0 : RfS M0 c0 H gf T CI 8191) (hc0 : c0 ≤ 8191) (h24 : M0.2.2.1 89 24 = 0) (hP : JnP CI H gf T) (h6 : H.length ≤ 6) {f : Nat} (hf : f < c0) (hG : dR M0 f = G) (hw : wG G ≤ wG gf) (ha : Sub (ag G) (ag gf)) : (40 < wdf gf + hws H → f_X11_provableBy 2046 89 (nI f) M0 = some (-4, M0)) ∧ (wdf gf + hws H ≤ 40 → ∃ v M2 c2, f_X11_provableBy 2046 89 (nI f) M0 = some (v, M2) ∧ ((v = 1 ∧ Ent (hyF H) G) ∨ (v = 0 ∧ ¬ Ent (hyF H) G)) ∧ Fr SPb M0 M2 ∧ RfS M2 c2 H gf T CI 11000 ∧ M2.2.2.1 89 24 = 0) := by
  have hl := hws_le H (fun x hx => (hP.1 x hx).2.1)
  have hg60 := hP.2.1.1.2.1
  obtain ⟨p1, p2⟩ := rx_provableBy (n := 2044) R0.1 R0.2.1 R0.2.2.1 R0.2.2.2.1 hf hG hw ha (by omega) (fun x hx => (hP.1 x hx).1.2) hP.2.1.1.1.2 (fun x hx => (hP.1 x hx).2.2) hP.2.1.1.2.2 (by omega) (by omega)
  refine ⟨p1, fun q => ?_⟩
  obtain ⟨v, M2, c2, k1, k2, k3, k4⟩ := p2 q
  have F1 : Fr SPb M0 (wI M0 89 24 0) := Fr.refl.wI (by unfold SPb; omega) _
  have F2 : Fr SPb M0 M2 := F1.trans (k3.1.mono (fun a k q => by
    rcases q with q | q
    · unfold SR at q; unfold SPb; omega
    · have := q.1; unfold SPb; omega))
  have F1' : Fr (fun a k => a = 89 ∧ k = 24) M0 (wI M0 89 24 0) := Fr.refl.wI ⟨rfl, rfl⟩ _
  have d1 : ∀ i, dR (wI M0 89 24 0) i = dR M0 i := fun i => by rw [dR_fq F1'.q (fun k z => by omega) (fun k z => by omega) (fun k z => by omega)]
  have dd : ∀ i, i < c0 → dR M2 i = dR M0 i := fun i hi => (k3.2.2.2 i hi).trans (d1 i)
  have F3 : Fr (fun a i => (a = 89 ∧ i = 24) ∨ SR a i ∨ S125 0 a i) M0 M2 := (F1'.mono (fun a k q => Or.inl q)).trans (k3.1.mono (fun a k q => Or.inr q))
  have hS3 : ∀ a i, ((a = 89 ∧ i = 24) ∨ SR a i ∨ S125 0 a i) → (a = 89 ∧ (i = 7 ∨ i = 24)) ∨ (90 ≤ a ∧ a ≤ 94) ∨ a = 125 := fun a i q => by
    rcases q with q | q | q
    · omega
    · unfold SR at q; omega
    · have := q.1; omega
  obtain ⟨w, w1, w2, w3⟩ := R0.2.2.2.1
  refine ⟨v, M2, c2, k1, k2, F2, R0.gl F3 (fun a i q => by have := hS3 _ _ q; omega) k3.2.1 dd k3.2.2.1 ((R0.2.2.2.2.2.grow dd k4).mono (by omega)) ⟨w, by have := k3.2.2.1; omega, (F3.int (fun q => by have := hS3 _ _ q; omega)).trans w2, (dd w w1).trans w3⟩, ?_⟩
  have z24 : M2.2.2.1 89 24 = (wI M0 89 24 0).2.2.1 89 24 := k3.1.int (fun q => by
    rcases q with q | q
    · unfold SR at q; omega
    · have := q.1; omega)
  rw [z24]
  simp [up2_if]
theorem RfS.up {K K1 : Nat} (h : RfS M c H gf T CI K) (hK : K ≤ K1) : RfS M c H gf T CI K1 := ⟨h.1, h.2.1, h.2.2.1, h.2.2.2.1, h.2.2.2.2.1, h.2.2.2.2.2.mono hK⟩
theorem same_ans {v w : Int32} {A : Prop} (h1 : (v = 1 ∧ A) ∨ (v = 0 ∧ ¬ A)) (h2 : (w = 1 ∧ A) ∨ (w = 0 ∧ ¬ A)) : w = v := by
  rcases h1 with ⟨a, p⟩ | ⟨a, p⟩
  · rcases h2 with ⟨b, q⟩ | ⟨b, q⟩
    · rw [a, b]
    · exact absurd p q
  · rcases h2 with ⟨b, q⟩ | ⟨b, q⟩
    · exact absurd q p
    · rw [a, b]
/-- both sides, for a goal G -/
theorem jn_pv2 {f g : Mem → Option (Int32 × Mem)} (hk : k < 512) (hb : 1240 * c + 601 * L ≤ 12020 * k + 11160) (hm : MkC k M) (hC : ClA M c b L H gf T ks) (hR : RfA M cR b L H gf T ks (Inn M c)) (hP : JnP (Inn M c) H gf T) (hE : FlE M) (hg0 : g0 < c) (hG : dC M g0 = G) (hGw : wdf G ≤ wdf gf) (hw : wG G ≤ wG gf) (ha : Sub (ag G) (ag gf)) (hf : ∀ v M1, f_X10_provableFrom 2046 0 (nI g0) M = some (v, M1) → f M = some (v, M1)) (hg : ∀ M1, Wd M1 → Fr SDv M M1 → RfA M1 cR b L H gf T ks (Inn M1 c) → ∀ M0 c0, f_X11_tidies 2046 89 (wI (wI M1 89 0 0) 89 24 0) = some ((), M0) → RfS M0 c0 H gf T (Inn M1 c) 8191 → c0 ≤ 8191 → ∃ f0, f0 < c0 ∧ dR M0 f0 = G ∧ ∀ v M2, f_X11_provableBy 2046 89 (nI f0) M0 = some (v, M2) → g M1 = some (v, M2)) : Pr2 (Jn (k + 1)) f g M := by
  have h6 := hC.1.2.2.2.1.2.1
  obtain ⟨c1, c2⟩ := c_provableFrom hC.1 (fun x hx => (hP.1 x hx).2.1) hP.2.1.1.2.1 hg0 hG hGw hm (by omega) 1956
  by_cases q : wdf gf + hws H ≤ 40
  · obtain ⟨v, M1, y1, k1, F1, m1⟩ := c2 q
    have hS1 : ∀ a k, SDv a k → a < 89 := fun a k q => by have := SDv_is q; omega
    have C1 := hC.1.pv F1
    have d1 := (hC.1.2.2.1.pv F1).2
    have hI : ∀ f, Inn M c f → Inn M1 c f := fun f ⟨v, v1, v2⟩ => ⟨v, v1, by rw [d1]; exact v2⟩
    have hR1 := hR.cls F1.q hS1 hI
    have hP1 := hP.ci hI
    obtain ⟨M0, c0, y0, F0, h24, R0, hc0⟩ := r_tidied hR1 hP1 (Inn_cls C1.2.2.1)
    obtain ⟨f0, f1, f2, f3⟩ := hg M1 C1.1 F1 hR1 M0 c0 y0 R0 hc0
    obtain ⟨w, M2, c2', z1, z2, F2, R2, w2⟩ := (r_pvBy R0 hc0 h24 hP1 h6 f1 f2 hw ha).2 q
    have e := same_ans k1 z2
    rw [e] at z1
    exact jn_pv hb hC hE (hf _ _ y1) F1 m1 hR1 hP1 (f3 _ _ z1) (F0.trans F2) R2 w2
  · have y1 := c1 (by omega)
    obtain ⟨M0, c0, y0, F0, h24, R0, hc0⟩ := r_tidied hR hP (Inn_cls hC.1.2.2.1)
    obtain ⟨f0, f1, f2, f3⟩ := hg M hC.1.1 Fr.refl hR M0 c0 y0 R0 hc0
    have z1 := (r_pvBy R0 hc0 h24 hP h6 f1 f2 hw ha).1 (by omega)
    exact jn_pv hb hC hE (hf _ _ y1) Fr.refl hm.up hR hP (f3 _ _ z1) F0 (R0.up (by omega)) h24
theorem j_provable (hk : k < 512) (h : Jn k M) : Pr2 (Jn (k + 1)) (f_X10_provable 2047 0) (f_X11_provable 2047 89) M := by
  obtain ⟨c, cR, b, L, H, gf, T, ks, hC, hR, hP, hE, hb, hm⟩ := h
  obtain ⟨g, g1, g2, g3, -⟩ := hC.1.2.2.2.2.1
  have hW := hC.1.1
  obtain ⟨m, hmm⟩ : ∃ m, m = 2046 := ⟨_, rfl⟩
  refine jn_pv2 hk hb hm hC hR hP hE g1 g3 (Nat.le_refl _) (Nat.le_refl _) (fun _ h => h) (fun v M1 y => ?_) (fun M1 hW1 F1 hR1 M0 c0 y0 R0 hc0 => ?_)
  · rw [← hmm] at y
    rw [show 2047 = m + 1 by omega]
    show T_X10_provable_0 (fun v M => some (v, M)) none (m + 1) 0 M = _
    unfold T_X10_provable_0
    simp only [↓gd_pos (fO_0 hW), g2, ↓bnd2_of (show cal (m + 1) (fun zz => f_X10_provableFrom zz 0 (nI g) M) = _ from y)]
  · obtain ⟨w, w1, w2, w3⟩ := R0.2.2.2.1
    refine ⟨w, w1, w3, fun v M2 y => ?_⟩
    rw [← hmm] at y y0
    rw [show 2047 = m + 1 by omega]
    show T_X11_provable_0 (fun v M => some (v, M)) none (m + 1) 89 M1 = _
    unfold T_X11_provable_0
    simp only [↓gd_pos (fO_89 hW1), ↓bnd2_of (show cal (m + 1) (fun zz => f_X11_tidies zz 89 (wI (wI M1 89 0 0) 89 24 0)) = _ from y0), ↓gd_pos (fO_89 R0.1), w2, ↓bnd2_of (show cal (m + 1) (fun zz => f_X11_provableBy zz 89 (nI w) M0) = _ from y)]
theorem side_cases (x : Int32) : (∃ n, n ≤ 1 ∧ x = nI n) ∨ ∀ n, n ≤ 1 → x ≠ nI n := by
  by_cases h : ∃ n, n ≤ 1 ∧ x = nI n
  · exact Or.inl h
  · exact Or.inr (fun s hs e => h ⟨s, hs, e⟩)
set_option maxHeartbeats 2000000 in
theorem j_bySide (hk : k < 512) (h : Jn k M) (x : Int32) : Pr2 (Jn (k + 1)) (f_X10_bySide 2047 0 x) (f_X11_bySide 2047 89 x) M := by
  obtain ⟨c, cR, b, L, H, gf, T, ks, hC, hR, hP, hE, hb, hm⟩ := h
  obtain ⟨g, g1, g2, g3, -⟩ := hC.1.2.2.2.2.1
  have hW := hC.1.1
  have hT := hC.1.2.2.1
  have hcT := hT.2.1
  obtain ⟨m, hmm⟩ : ∃ m, m = 2046 := ⟨_, rfl⟩
  have inT : ∀ M : Mem, _ := fun M => rx_inT (M := M) m (L := 1) (by omega) x
  have e1L : Int32.toInt64 (nI 1) = 1 := by decide
  rcases side_cases x with ⟨s, hs, hx⟩ | hn
  · have is1 : ∀ M, f_X11_isIn m (Int32.toInt64 x) 0 1 M = some (1, M) := fun M => by
      have := (inT M).1 s hs hx
      rw [e1L] at this
      exact this
    have z1 : ((1 : Int32) = 0) = False := eq_false (by decide)
    have hx0 : (x < 0) = False := by rw [hx]; exact nI_lt0 (by omega)
    have hx1 : (x ≤ 1) = True := eq_true (by rw [hx, show (1 : Int32) = nI 1 from rfl, nI_le_ (by omega) (by omega)]; exact hs)
    have yk := c_kindOf hW hT m g1
    by_cases hor : ∃ A B, gf = .sub A B
    · obtain ⟨A, B, hAB⟩ := hor
      -- the class's side
      have g9 : 9 ≤ g := by
        apply Nat.le_of_not_lt
        intro q
        have := hT.leaf q
        rw [g3, hAB] at this
        cases this
      obtain ⟨j, a, d, j1, j2, ha, hd, e1, e2, e3, e4⟩ := hT.node g9 g1
      have em : mkF j (dC M a) (dC M d) = mkF 11 A B := e4.symm.trans (g3.trans hAB)
      obtain ⟨ej, ea, ed⟩ := mkF_inj j1 j2 (by omega) (by omega) em
      subst ej
      have yl := c_leftOf hW hT m g1
      have yr := c_rightOf hW hT m g1
      rw [e1] at yk
      rw [e2] at yl
      rw [e3] at yr
      have k11 : (nI 11 = (11 : Int32)) = True := eq_true rfl
      have ewd : wdf gf = 1 + wdf A + wdf B := by rw [hAB]; rfl
      have ewg : wG gf = 1 + max (wG A) (wG B) := by rw [hAB]; rfl
      have mx1 := Nat.le_max_left (wG A) (wG B)
      have mx2 := Nat.le_max_right (wG A) (wG B)
      have eag : ag gf = ag A ++ ag B := by rw [hAB]; rfl
      -- the reference's, before and behind tidies
      have rs : ∀ M1, Wd M1 → RfA M1 cR b L H gf T ks (Inn M1 c) → ∃ w, M1.2.2.1 89 16 = nI w ∧ w < 16384 ∧ M1.2.2.1 90 w = nI 11 := fun M1 hW1 hR1 => by
        obtain ⟨w, w1, w2, w3⟩ := hR1.1.2.2.2.1
        obtain ⟨_, _, _, _, q, -⟩ := tab_node (A := A) (B := B) (j := 11) hR1.1.2.1 w1 (by omega) (by omega) (w3.trans hAB)
        exact ⟨w, w2, by have := hR1.1.2.1.2.1; omega, q⟩
      have hs01 : s = 0 ∨ s = 1 := by omega
      rcases hs01 with rfl | rfl
      · have hx00 : (x = 0) = True := eq_true hx
        refine jn_pv2 (g0 := a) (G := A) hk hb hm hC hR hP hE (by omega) ea (by omega) (by omega) (fun z hz => by rw [eag]; exact List.mem_append_left _ hz) (fun v M1 y => ?_) (fun M1 hW1 F1 hR1 M0 c0 y0 R0 hc0 => ?_)
        · rw [← hmm] at y
          rw [show 2047 = m + 1 by omega]
          show T_X10_bySide_0 (fun v M => some (v, M)) none (m + 1) 0 x M = _
          unfold T_X10_bySide_0
          simp only [hx0, hx1, ↓reduceIte, ↓gd_pos (fO_0 hW), ↓bnd_of (r_0_2 hW), ↓gd_pos (fO_2 hW), g2, ↓bnd2_of (show cal (m + 1) (fun zz => f_X1_kindOf zz 2 (nI g) M) = _ from yk), k11, hx00, ↓bnd2_of (show cal (m + 1) (fun zz => f_X1_leftOf zz 2 (nI g) M) = _ from yl), ↓bnd2_of (show cal (m + 1) (fun zz => f_X10_provableFrom zz 0 (nI a) M) = _ from y)]
        · obtain ⟨w, w2, w6, w90⟩ := rs M1 hW1 hR1
          obtain ⟨u, u1, u2, u3⟩ := R0.2.2.2.1
          obtain ⟨u4, u5, hu4, hu5, -, u7, u8, u9, u10⟩ := tab_node (A := A) (B := B) (j := 11) R0.2.1 u1 (by omega) (by omega) (u3.trans hAB)
          refine ⟨u4, by omega, u9, fun v M2 y => ?_⟩
          rw [← hmm] at y y0
          rw [show 2047 = m + 1 by omega]
          have F0' : Fr (fun a k => a = 89 ∧ k = 0) M1 (wI M1 89 0 0) := Fr.refl.wI ⟨rfl, rfl⟩ _
          have hW0 := F0'.Wd hW1
          have i16 : (wI M1 89 0 0).2.2.1 89 16 = nI w := (F0'.int (by omega)).trans w2
          have i90 : (wI M1 89 0 0).2.2.1 90 w = nI 11 := (F0'.int (by omega)).trans w90
          obtain ⟨Mz, hMz⟩ : ∃ Mz, wI M1 89 0 0 = Mz := ⟨_, rfl⟩
          rw [hMz] at F0' hW0 i16 i90 y0
          show T_X11_bySide_0 (fun v M => some (v, M)) none (m + 1) 89 x M1 = _
          unfold T_X11_bySide_0
          rw [hMz]
          simp (disch := omega) only [↓gd_pos (fO_89 hW1), ↓bnd2_of (show cal (m + 1) (fun zz => f_X11_isIn zz (Int32.toInt64 x) 0 1 Mz) = _ from is1 _), z1, ↓reduceIte, ↓gd_pos (fO_89 hW0), ↓bnd_of (r_89_1 hW0), i16, ↓gd_pos (fA_R hW0 (a := 90) (by omega) (s_90 hW0) w6 (by omega)), nI_z, i90, k11, ↓bnd2_of (show cal (m + 1) (fun zz => f_X11_tidies zz 89 (wI Mz 89 24 0)) = _ from y0), hx00, ↓gd_pos (fO_89 R0.1), ↓bnd_of (r_89_2 R0.1), u2, ↓gd_pos (fA_R R0.1 (a := 91) (by omega) (s_91 R0.1) (show u < 16384 by omega) (by omega)), u7, ↓bnd2_of (show cal (m + 1) (fun zz => f_X11_provableBy zz 89 (nI u4) M0) = _ from y)]
      · have hx00 : (x = 0) = False := eq_false (by rw [hx]; decide)
        refine jn_pv2 (g0 := d) (G := B) hk hb hm hC hR hP hE (by omega) ed (by omega) (by omega) (fun z hz => by rw [eag]; exact List.mem_append_right _ hz) (fun v M1 y => ?_) (fun M1 hW1 F1 hR1 M0 c0 y0 R0 hc0 => ?_)
        · rw [← hmm] at y
          rw [show 2047 = m + 1 by omega]
          show T_X10_bySide_0 (fun v M => some (v, M)) none (m + 1) 0 x M = _
          unfold T_X10_bySide_0
          simp only [hx0, hx1, ↓reduceIte, ↓gd_pos (fO_0 hW), ↓bnd_of (r_0_2 hW), ↓gd_pos (fO_2 hW), g2, ↓bnd2_of (show cal (m + 1) (fun zz => f_X1_kindOf zz 2 (nI g) M) = _ from yk), k11, hx00, ↓bnd2_of (show cal (m + 1) (fun zz => f_X1_rightOf zz 2 (nI g) M) = _ from yr), ↓bnd2_of (show cal (m + 1) (fun zz => f_X10_provableFrom zz 0 (nI d) M) = _ from y)]
        · obtain ⟨w, w2, w6, w90⟩ := rs M1 hW1 hR1
          obtain ⟨u, u1, u2, u3⟩ := R0.2.2.2.1
          obtain ⟨u4, u5, hu4, hu5, -, u7, u8, u9, u10⟩ := tab_node (A := A) (B := B) (j := 11) R0.2.1 u1 (by omega) (by omega) (u3.trans hAB)
          refine ⟨u5, by omega, u10, fun v M2 y => ?_⟩
          rw [← hmm] at y y0
          rw [show 2047 = m + 1 by omega]
          have F0' : Fr (fun a k => a = 89 ∧ k = 0) M1 (wI M1 89 0 0) := Fr.refl.wI ⟨rfl, rfl⟩ _
          have hW0 := F0'.Wd hW1
          have i16 : (wI M1 89 0 0).2.2.1 89 16 = nI w := (F0'.int (by omega)).trans w2
          have i90 : (wI M1 89 0 0).2.2.1 90 w = nI 11 := (F0'.int (by omega)).trans w90
          obtain ⟨Mz, hMz⟩ : ∃ Mz, wI M1 89 0 0 = Mz := ⟨_, rfl⟩
          rw [hMz] at F0' hW0 i16 i90 y0
          show T_X11_bySide_0 (fun v M => some (v, M)) none (m + 1) 89 x M1 = _
          unfold T_X11_bySide_0
          rw [hMz]
          simp (disch := omega) only [↓gd_pos (fO_89 hW1), ↓bnd2_of (show cal (m + 1) (fun zz => f_X11_isIn zz (Int32.toInt64 x) 0 1 Mz) = _ from is1 _), z1, ↓reduceIte, ↓gd_pos (fO_89 hW0), ↓bnd_of (r_89_1 hW0), i16, ↓gd_pos (fA_R hW0 (a := 90) (by omega) (s_90 hW0) w6 (by omega)), nI_z, i90, k11, ↓bnd2_of (show cal (m + 1) (fun zz => f_X11_tidies zz 89 (wI Mz 89 24 0)) = _ from y0), hx00, ↓gd_pos (fO_89 R0.1), ↓bnd_of (r_89_3 R0.1), u2, ↓gd_pos (fA_R R0.1 (a := 92) (by omega) (s_92 R0.1) (show u < 16384 by omega) (by omega)), u8, ↓bnd2_of (show cal (m + 1) (fun zz => f_X11_provableBy zz 89 (nI u5) M0) = _ from y)]
    · -- no or
      have kc : ∃ j, j < 20 ∧ j ≠ 11 ∧ M.2.2.1 3 g = nI j := by
        by_cases g9 : g < 9
        · exact ⟨g, by omega, by omega, hT.2.2.2.2.1 g g9⟩
        · obtain ⟨j, a, d, j1, j2, ha, hd, e1, e2, e3, e4⟩ := hT.node (by omega) g1
          refine ⟨j, by omega, fun q => hor ⟨dC M a, dC M d, ?_⟩, e1⟩
          rw [← g3, e4, q]
          rfl
      obtain ⟨j, j1, j2, j3⟩ := kc
      rw [j3] at yk
      have k11 : (nI j = (11 : Int32)) = False := kne (k := 11) j1 (by omega) j2
      obtain ⟨w, w1, w2, w3⟩ := hR.1.2.2.2.1
      have hcR := hR.1.2.1.2.1
      have kr : ∃ j, j < 20 ∧ j ≠ 11 ∧ M.2.2.1 90 w = nI j := by
        rcases hR.1.2.1.cases w1 with ⟨j, hj, e1, -, -, -⟩ | ⟨j, a, d, i1, i2, ha, hd, e1, e2, e3, e4⟩
        · exact ⟨j, by omega, by omega, e1⟩
        · refine ⟨j, by omega, fun q => hor ⟨dR M a, dR M d, ?_⟩, e1⟩
          rw [← w3, e4, q]
          rfl
      obtain ⟨i, i1, i2, i3⟩ := kr
      have r11 : (nI i = (11 : Int32)) = False := kne (k := 11) i1 (by omega) i2
      refine jn_ans (v := -5) hb hm hC hR hP hE ?_ ?_
      · rw [show 2047 = m + 1 by omega]
        show T_X10_bySide_0 (fun v M => some (v, M)) none (m + 1) 0 x M = _
        unfold T_X10_bySide_0
        simp only [hx0, hx1, ↓reduceIte, ↓gd_pos (fO_0 hW), ↓bnd_of (r_0_2 hW), ↓gd_pos (fO_2 hW), g2, ↓bnd2_of (show cal (m + 1) (fun zz => f_X1_kindOf zz 2 (nI g) M) = _ from yk), k11]
      · rw [show 2047 = m + 1 by omega]
        have F0' : Fr (fun a k => a = 89 ∧ k = 0) M (wI M 89 0 0) := Fr.refl.wI ⟨rfl, rfl⟩ _
        have hW0 := F0'.Wd hW
        have i16 : (wI M 89 0 0).2.2.1 89 16 = nI w := (F0'.int (by omega)).trans w2
        have i90 : (wI M 89 0 0).2.2.1 90 w = nI i := (F0'.int (by omega)).trans i3
        obtain ⟨Mz, hMz⟩ : ∃ Mz, wI M 89 0 0 = Mz := ⟨_, rfl⟩
        rw [hMz] at F0' hW0 i16 i90
        show T_X11_bySide_0 (fun v M => some (v, M)) none (m + 1) 89 x M = _
        unfold T_X11_bySide_0
        rw [hMz]
        simp (disch := omega) only [↓gd_pos (fO_89 hW), ↓bnd2_of (show cal (m + 1) (fun zz => f_X11_isIn zz (Int32.toInt64 x) 0 1 Mz) = _ from is1 _), z1, ↓reduceIte, ↓gd_pos (fO_89 hW0), ↓bnd_of (r_89_1 hW0), i16, ↓gd_pos (fA_R hW0 (a := 90) (by omega) (s_90 hW0) (show w < 16384 by omega) (by omega)), nI_z, i90, r11]
  · have is0 : ∀ M, f_X11_isIn m (Int32.toInt64 x) 0 1 M = some (0, M) := fun M => by
      have := (inT M).2 hn
      rw [e1L] at this
      exact this
    refine jn_ans (v := -2) hb hm hC hR hP hE ?_ ?_
    · rw [show 2047 = m + 1 by omega]
      show T_X10_bySide_0 (fun v M => some (v, M)) none (m + 1) 0 x M = _
      unfold T_X10_bySide_0
      by_cases h0 : x < 0
      · simp only [h0, ↓reduceIte]
      · obtain ⟨j, hj, e⟩ := nI_of h0
        have h1 : (x ≤ 1) = False := eq_false (by
          rw [e, show (1 : Int32) = nI 1 from rfl, nI_le_ (by omega) (by omega)]
          exact fun q => hn j q e)
        simp only [h0, h1, ↓reduceIte]
    · rw [show 2047 = m + 1 by omega]
      show T_X11_bySide_0 (fun v M => some (v, M)) none (m + 1) 89 x M = _
      unfold T_X11_bySide_0
      simp only [↓gd_pos (fO_89 hW), ↓bnd2_of (show cal (m + 1) (fun zz => f_X11_isIn zz (Int32.toInt64 x) 0 1 (wI M 89 0 0)) = _ from is0 _), ↓reduceIte]
end JP3
