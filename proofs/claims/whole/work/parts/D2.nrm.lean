/-! STEPS till a proof is normal -/
def NrmR (h : Nat) (H : Nat → Fm) : Nat → Tm → Option (List Nat × Tm) → Prop
  | 0, t, o => (frx (rws t) (sz t) 0 = none ∧ o = some ([], t)) ∨ ((∃ j, frx (rws t) (sz t) 0 = some j) ∧ o = none)
  | z + 1, t, o => (frx (rws t) (sz t) 0 = none ∧ o = some ([], t)) ∨ ∃ k u, StT h H t k u ∧ ((200 < sz u ∧ o = none) ∨ (sz u ≤ 200 ∧ ∃ o', NrmR h H z u o' ∧ o = o'.map (fun r => (k :: r.1, r.2))))
section NRM
variable {h : Nat} {H : Nat → Fm}
theorem StT.kd {t t' : Tm} {k : Nat} (hs : StT h H t k t') : (1 ≤ k ∧ k ≤ 7) ∧ ∃ j, frx (rws t) (sz t) 0 = some j := by
  obtain ⟨j, s, e, Gs, y, s', K, x, h1, h2, h3, -⟩ := hs
  have := rdk_le (opl (rws t) j) (opl (rws t) (j + 1))
  unfold rdl at h2
  exact ⟨by omega, j, h1⟩
theorem NrmR.ex : ∀ z {t : Tm} {x : Fm}, isT t → Wc (fun _ => True) h H t 0 gN 0 x → ∃ o, NrmR h H z t o := by
  intro z
  induction z with
  | zero =>
    intro t x ht hw
    cases hf : frx (rws t) (sz t) 0 with
    | none => exact ⟨_, Or.inl ⟨hf, rfl⟩⟩
    | some j => exact ⟨_, Or.inr ⟨⟨j, hf⟩, rfl⟩⟩
  | succ z ih =>
    intro t x ht hw
    cases hf : frx (rws t) (sz t) 0 with
    | none => exact ⟨_, Or.inl ⟨hf, rfl⟩⟩
    | some j =>
      obtain ⟨k, u, hs⟩ := StT.ex ht hw hf
      by_cases hz : sz u ≤ 200
      · obtain ⟨o, ho⟩ := ih hs.tm (hs.wt ht hw)
        exact ⟨_, Or.inr ⟨k, u, hs, Or.inr ⟨hz, o, ho, rfl⟩⟩⟩
      · exact ⟨_, Or.inr ⟨k, u, hs, Or.inl ⟨by omega, rfl⟩⟩⟩
theorem NrmR.ok {P : Fm → Prop} : ∀ z {t : Tm} {x : Fm} {r : List Nat × Tm}, isT t → sz t ≤ 200 → Wc P h H t 0 gN 0 x → NrmR h H z t (some r) → isT r.2 ∧ sz r.2 ≤ 200 ∧ Wc P h H r.2 0 gN 0 x ∧ r.1.length ≤ z ∧ (∀ k, k ∈ r.1 → 1 ≤ k ∧ k ≤ 7) ∧ frx (rws r.2) (sz r.2) 0 = none := by
  intro z
  induction z with
  | zero =>
    intro t x r ht h2 hw hn
    rcases hn with ⟨hf, e⟩ | ⟨-, e⟩
    · cases e
      exact ⟨ht, h2, hw, Nat.le_refl _, fun k q => by simp at q, hf⟩
    · cases e
  | succ z ih =>
    intro t x r ht h2 hw hn
    rcases hn with ⟨hf, e⟩ | ⟨k, u, hs, ⟨-, e⟩ | ⟨hz, o', ho, e⟩⟩
    · cases e
      exact ⟨ht, h2, hw, Nat.zero_le _, fun k q => by simp at q, hf⟩
    · cases e
    · cases o' with
      | none => cases e
      | some r' =>
        have e : some r = some (k :: r'.1, r'.2) := e
        cases e
        obtain ⟨a1, a2, a3, a4, a5, a6⟩ := ih hs.tm hz (hs.wt ht hw) ho
        exact ⟨a1, a2, a3, by simpa using a4, fun j q => by
          rw [List.mem_cons] at q
          rcases q with rfl | q
          · exact hs.kd.1
          · exact a5 j q, a6⟩
end NRM
section NRC
variable {c : Nat} {Hl : List (Nat × Fm)}
def SRa (a k : Nat) : Prop := SAg a k ∨ a = 48 ∨ SO 60 a k ∨ SO 63 a k ∨ a = 87
noncomputable abbrev lpA (m n : Nat) (M : Mem) : Option (Int32 × Mem) := lp (st_X7_reduceAll (m + 5)) (10, [.ref 53, .ref 87, .int (nI n)], M)
def KsC (M : Mem) (a : Nat) (ks : List Nat) : Prop := ∀ i x, ks[i]? = some x → M.2.2.1 a i = nI x
theorem KsC.push {M M1 : Mem} {a : Nat} {ks : List Nat} {k : Nat} (h : KsC M a ks) (h1 : ∀ i, i < ks.length → M1.2.2.1 a i = M.2.2.1 a i) (h2 : M1.2.2.1 a ks.length = nI k) : KsC M1 a (ks ++ [k]) := by
  intro i x hi
  by_cases q : i < ks.length
  · rw [List.getElem?_append_left q] at hi
    exact (h1 i q).trans (h i x hi)
  · rw [List.getElem?_append_right (by omega)] at hi
    have : i - ks.length = 0 := by
      apply Nat.eq_zero_of_not_pos
      intro z
      rw [List.getElem?_eq_none (by simp; omega)] at hi
      cases hi
    rw [this] at hi
    cases hi
    rw [show i = ks.length by omega]
    exact h2
set_option maxHeartbeats 1000000 in
theorem ra_loop (m : Nat) : ∀ z n, n + z = 60 → ∀ {M : Mem} {hr tr : Nat} {t : Tm} {x : Fm} {ks : List Nat} {o : Option (List Nat × Tm)}, Wd M → TabC M c → HyC M 10 c Hl → HtC M hr tr → isT t → RowC M hr c (rws t) → Wc (Inn M c) Hl.length (hF Hl) t 0 gN 0 x → ks.length = n → KsC M 87 ks → NrmR Hl.length (hF Hl) z t o → (o = none → ∃ M1 hr1 tr1, lpA m n M = some (-4, M1) ∧ Fq SRa M M1 ∧ HtC M1 hr1 tr1) ∧ ∀ r, o = some r → ∃ M1 hr1 tr1, lpA m n M = some (nI (n + r.1.length), M1) ∧ Fq SRa M M1 ∧ HtC M1 hr1 tr1 ∧ RowC M1 hr1 c (rws r.2) ∧ KsC M1 87 (ks ++ r.1) := by
  obtain ⟨q, hq⟩ : ∃ q, q = m + 4 := ⟨_, rfl⟩
  intro z
  induction z with
  | zero =>
    intro n hn M hr tr t x ks o hW hTb hH hHt ht hR hw hks hK hnr
    have hTo : TOb hr := by unfold TOb; have := hHt.1; omega
    have y0 := c_firstRedex hW hTo hR (m + 2)
    rw [rws_len, show m + 2 + 2 = q by omega] at y0
    have h60 : ((60 : Int32) < nI n) = False := by rw [show (60 : Int32) = nI 60 from rfl, nI_lt_ (by omega) (by omega)]; exact eq_false (by omega)
    have ea : aLen M 87 = some 60 := by simp [aLen, W_0 hW]
    rcases hnr with ⟨hf, rfl⟩ | ⟨⟨j, hf⟩, rfl⟩
    · refine ⟨fun q => (by cases q), fun r e => ?_⟩
      cases e
      rw [hf] at y0
      have y0' : f_X9_firstRedex q hr M = some (-1, M) := y0
      refine ⟨M, hr, tr, ?_, Fq.refl, hHt, hR, by simpa using hK⟩
      unfold lpA
      rw [show m + 5 = q + 1 by omega]
      refine (ge_X7_reduceAll_10 (q + 1) 53 87 (nI n) M).trans ?_
      unfold T_X7_reduceAll_10
      simp only [↓reduceIte, h60, ↓gd_pos (fO_53 hW), ↓bnd_of hHt.2.1, ↓gd_pos (fO_T hW hTo), ↓bnd2_of (show cal (q + 1) (fun zz => f_X9_firstRedex zz hr M) = _ from y0')]
      rfl
    · refine ⟨fun _ => ⟨M, hr, tr, ?_, Fq.refl, hHt⟩, fun r e => (by cases e)⟩
      rw [hf] at y0
      have y0' : f_X9_firstRedex q hr M = some (nI j, M) := y0
      have hj : j < 2147483648 := by
        rcases frx_is (rws t) (sz t) 0 with ⟨q1, -⟩ | ⟨j', h1, h2, h3, h4, -⟩
        · rw [q1] at hf; cases hf
        · rw [h4] at hf
          have : j' = j := Option.some.inj hf
          have := hR.2.1
          rw [rws_len] at this
          omega
      unfold lpA
      rw [show m + 5 = q + 1 by omega]
      refine (ge_X7_reduceAll_10 (q + 1) 53 87 (nI n) M).trans ?_
      unfold T_X7_reduceAll_10
      have h61 : (nI n < Int32.ofNat 60) = False := by rw [show Int32.ofNat 60 = nI 60 from rfl, nI_lt_ (by omega) (by omega)]; exact eq_false (by omega)
      simp only [↓reduceIte, h60, ↓gd_pos (fO_53 hW), ↓bnd_of hHt.2.1, ↓gd_pos (fO_T hW hTo), ↓bnd2_of (show cal (q + 1) (fun zz => f_X9_firstRedex zz hr M) = _ from y0'), nI_ne_m1 hj, ↓bnd_of ea, h61]
  | succ z ih =>
    intro n hn M hr tr t x ks o hW hTb hH hHt ht hR hw hks hK hnr
    have hTo : TOb hr := by unfold TOb; have := hHt.1; omega
    have hTt : TOb tr := by unfold TOb; have := hHt.1; omega
    have hne : hr ≠ tr := by have := hHt.1; omega
    have y0 := c_firstRedex hW hTo hR (m + 2)
    rw [rws_len, show m + 2 + 2 = q by omega] at y0
    have h60 : ((60 : Int32) < nI n) = False := by rw [show (60 : Int32) = nI 60 from rfl, nI_lt_ (by omega) (by omega)]; exact eq_false (by omega)
    have ea : aLen M 87 = some 60 := by simp [aLen, W_0 hW]
    rcases hnr with ⟨hf, rfl⟩ | ⟨k, u, hst, hor⟩
    · refine ⟨fun q => (by cases q), fun r e => ?_⟩
      cases e
      rw [hf] at y0
      have y0' : f_X9_firstRedex q hr M = some (-1, M) := y0
      refine ⟨M, hr, tr, ?_, Fq.refl, hHt, hR, by simpa using hK⟩
      unfold lpA
      rw [show m + 5 = q + 1 by omega]
      refine (ge_X7_reduceAll_10 (q + 1) 53 87 (nI n) M).trans ?_
      unfold T_X7_reduceAll_10
      simp only [↓reduceIte, h60, ↓gd_pos (fO_53 hW), ↓bnd_of hHt.2.1, ↓gd_pos (fO_T hW hTo), ↓bnd2_of (show cal (q + 1) (fun zz => f_X9_firstRedex zz hr M) = _ from y0')]
      rfl
    · obtain ⟨⟨hk1, hk7⟩, j, hf⟩ := hst.kd
      rw [hf] at y0
      have y0' : f_X9_firstRedex q hr M = some (nI j, M) := y0
      have hj : j < 2147483648 := by
        rcases frx_is (rws t) (sz t) 0 with ⟨q1, -⟩ | ⟨j', h1, h2, h3, h4, -⟩
        · rw [q1] at hf; cases hf
        · rw [h4] at hf
          have : j' = j := Option.some.inj hf
          have := hR.2.1
          rw [rws_len] at this
          omega
      have h61 : (nI n < Int32.ofNat 60) = True := by rw [show Int32.ofNat 60 = nI 60 from rfl, nI_lt_ (by omega) (by omega)]; exact eq_true (by omega)
      obtain ⟨M1, F1, rf1, res⟩ := (c_reduce hW hTo hTt hne ht hR hTb hH hw m).2 k u hst
      rw [show m + 4 = q by omega] at res
      have hW1 := F1.Wd hW
      have F1a : Fq SRa M M1 := F1.mono (fun a k q => by
        unfold SRd at q
        unfold SRa
        rcases q with q | q | q
        · rcases hHt.1 with ⟨-, e⟩ | ⟨-, e⟩
          · subst e; exact Or.inr (Or.inr (Or.inr (Or.inl q)))
          · subst e; exact Or.inr (Or.inr (Or.inl q))
        · exact Or.inl q
        · exact Or.inr (Or.inl q))
      have hHt1 : HtC M1 hr tr := ⟨hHt.1, (rf1 3 (by omega)).trans hHt.2.1, (rf1 4 (by omega)).trans hHt.2.2⟩
      rcases hor with ⟨hb, rfl⟩ | ⟨hz, o', ho', rfl⟩
      · refine ⟨fun _ => ⟨M1, hr, tr, ?_, F1a, hHt1⟩, fun r e => (by cases e)⟩
        rcases res with ⟨g1, -⟩ | ⟨-, y1⟩
        · omega
        · unfold lpA
          rw [show m + 5 = q + 1 by omega]
          refine (ge_X7_reduceAll_10 (q + 1) 53 87 (nI n) M).trans ?_
          unfold T_X7_reduceAll_10
          simp only [↓reduceIte, h60, ↓gd_pos (fO_53 hW), ↓bnd_of hHt.2.1, ↓bnd_of hHt.2.2, ↓gd_pos (fO_T hW hTo), ↓bnd2_of (show cal (q + 1) (fun zz => f_X9_firstRedex zz hr M) = _ from y0'), nI_ne_m1 hj, ↓bnd_of ea, h61, ↓bnd2_of (show cal (q + 1) (fun zz => f_X7_reduce zz 53 hr tr M) = _ from y1), show ((0 : Int32) ≤ -4) = False from eq_false (by decide)]
      · rcases res with ⟨-, y1, R1, -⟩ | ⟨g1, -⟩
        · obtain ⟨M2, hM2⟩ : ∃ M2, M2 = wR (wR (wI M1 87 n (nI k)) 53 4 (some hr)) 53 3 (some tr) := ⟨_, rfl⟩
          have F2 : Fq (fun a _ => a = 87) M1 M2 := by
            rw [hM2]
            exact ((Fq.refl.wI (S := fun a _ => a = 87) rfl _).wR (Or.inr ⟨rfl, by omega⟩) _).wR (Or.inr ⟨rfl, by omega⟩) _
          have F12 : Fq SRa M M2 := F1a.trans (F2.mono (fun a k q => by unfold SRa; omega))
          have hW2 := F2.Wd hW1
          obtain ⟨T2, d2⟩ := tab_mq hTb F12 (fun a k q => by unfold SRa SAg SO at q; omega)
          have H2 : HyC M2 10 c Hl := hH.uq F12 (fun a k q => by unfold SRa SAg SO at q; omega) (fun i _ => d2 i) (Nat.le_refl _)
          obtain ⟨-, d12⟩ := tab_mq (c := c) (M := M1) (M1 := M2) (tab_mq hTb F1a (fun a k q => by unfold SRa SAg SO at q; omega)).1 F2 (fun a k q => by omega)
          have hTtr : tr < 70 := by have := hHt.1; omega
          have R2 : RowC M2 tr c (rws u) := R1.mv (F2.int (by omega)) (F2.ints (fun k => by omega)) (F2.ints (fun k => by omega)) (fun i _ => d12 i) (Nat.le_refl _)
          have hHt2 : HtC M2 tr hr := ⟨by have := hHt.1; omega, by rw [hM2]; simp [up2_if], by rw [hM2]; simp [up2_if]⟩
          have K2 : KsC M2 87 (ks ++ [k]) := hK.push (fun i hi => by
            rw [hM2]
            show up2 M1.2.2.1 87 n (nI k) 87 i = _
            simp only [up2_if, show i ≠ n by omega, and_false, if_false]
            exact F1.int (by unfold SRd SO SAg; have := hHt.1; omega)) (by
            rw [hM2, hks]
            show up2 M1.2.2.1 87 n (nI k) 87 n = _
            simp [up2_if])
          have hw2 : Wc (Inn M2 c) Hl.length (hF Hl) u 0 gN 0 x := (hst.wt ht hw).imp u hst.tm (fun i z _ _ ⟨v, v1, v2⟩ => ⟨v, v1, (d2 v).trans v2⟩)
          have e1 : lpA m n M = lpA m (n + 1) M2 := by
            unfold lpA
            rw [show m + 5 = q + 1 by omega]
            refine (ge_X7_reduceAll_10 (q + 1) 53 87 (nI n) M).trans ?_
            unfold T_X7_reduceAll_10
            have hk0 : ((0 : Int32) ≤ nI k) = True := eq_true (by rw [show (0 : Int32) = nI 0 from rfl, nI_le_ (by omega) (by omega)]; omega)
            have hA : fA M1 87 1 (nI n) := fA_R hW1 (a := 87) (by omega) (s_87 hW1) (show n < 60 by omega) (by omega)
            simp only [↓reduceIte, h60, ↓gd_pos (fO_53 hW), ↓bnd_of hHt.2.1, ↓bnd_of hHt.2.2, ↓gd_pos (fO_T hW hTo), ↓bnd2_of (show cal (q + 1) (fun zz => f_X9_firstRedex zz hr M) = _ from y0'), nI_ne_m1 hj, ↓bnd_of ea, h61, ↓bnd2_of (show cal (q + 1) (fun zz => f_X7_reduce zz 53 hr tr M) = _ from y1), hk0, ↓gd_pos hA, ↓gd_pos (fO_53 hW1), ↓bnd_of hHt1.2.1, ↓bnd_of hHt1.2.2, nI_1, nI_z (show n < 2147483648 by omega), ← hM2]
          obtain ⟨i1, i2⟩ := ih (n + 1) (by omega) hW2 T2 H2 hHt2 hst.tm R2 hw2 (by simp; omega) K2 ho'
          refine ⟨fun e => ?_, fun r e => ?_⟩
          · cases o' with
            | some r' => cases e
            | none =>
              obtain ⟨M3, a, b, y3, F3, h3⟩ := i1 rfl
              exact ⟨M3, a, b, e1.trans y3, F12.trans F3, h3⟩
          · cases o' with
            | none => cases e
            | some r' =>
              have e : some (k :: r'.1, r'.2) = some r := e
              cases e
              obtain ⟨M3, a, b, y3, F3, h3, R3, K3⟩ := i2 r' rfl
              refine ⟨M3, a, b, ?_, F12.trans F3, h3, R3, by simpa using K3⟩
              rw [e1, y3]
              show some (nI (n + 1 + r'.1.length), M3) = some (nI (n + (r'.1.length + 1)), M3)
              rw [show n + 1 + r'.1.length = n + (r'.1.length + 1) by omega]
        · omega
theorem c_reduceAll {M : Mem} (m : Nat) {hr tr sr : Nat} {t : Tm} {x : Fm} {o : Option (List Nat × Tm)} (hW : Wd M) (hTb : TabC M c) (hH : HyC M 10 c Hl) (hHt : HtC M hr tr) (hS : TOb sr) (hS2 : sr < 50) (ht : isT t) (hR : RowC M sr c (rws t)) (hw : Wc (Inn M c) Hl.length (hF Hl) t 0 gN 0 x) (hnr : NrmR Hl.length (hF Hl) 60 t o) : (o = none → ∃ M1 hr1 tr1, f_X7_reduceAll (m + 5) 53 sr 87 M = some (-4, M1) ∧ Fq SRa M M1 ∧ HtC M1 hr1 tr1) ∧ ∀ r, o = some r → ∃ M1 hr1 tr1, f_X7_reduceAll (m + 5) 53 sr 87 M = some (nI r.1.length, M1) ∧ Fq SRa M M1 ∧ HtC M1 hr1 tr1 ∧ RowC M1 hr1 c (rws r.2) ∧ KsC M1 87 r.1 := by
  have hTo : TOb hr := by unfold TOb; have := hHt.1; omega
  obtain ⟨M1, y1, F1, R1, -⟩ := c_takeOver hW hTo hS (by have := hHt.1; omega) hR (m + 3)
  obtain ⟨q, hq⟩ : ∃ q, q = m + 4 := ⟨_, rfl⟩
  rw [show m + 3 + 1 = q by omega] at y1
  have F1a : Fq SRa M M1 := (F1.mono (fun a k q => by
    unfold SRa
    rcases hHt.1 with ⟨e, -⟩ | ⟨e, -⟩
    · subst e; exact Or.inr (Or.inr (Or.inl q))
    · subst e; exact Or.inr (Or.inr (Or.inr (Or.inl q))))).q
  have hW1 := F1.Wd hW
  obtain ⟨T1, d1⟩ := tab_mv hTb F1 (fun a k q => by have := q.not_low hTo; omega)
  have H1 : HyC M1 10 c Hl := hH.up F1 (fun a k q => by have := q.not_low hTo; omega) (fun i _ => d1 i) (Nat.le_refl _)
  have hHt1 : HtC M1 hr tr := by unfold HtC; rw [F1.2.2.1]; exact hHt
  have hw1 : Wc (Inn M1 c) Hl.length (hF Hl) t 0 gN 0 x := hw.imp t ht (fun i z _ _ ⟨v, v1, v2⟩ => ⟨v, v1, (d1 v).trans v2⟩)
  have e0 : f_X7_reduceAll (m + 5) 53 sr 87 M = lpA m 0 M1 := by
    unfold lpA
    rw [show m + 5 = q + 1 by omega]
    refine (ge_X7_reduceAll_0 (q + 1) 53 sr 87 M).trans ?_
    unfold T_X7_reduceAll_0
    simp only [↓gd_pos (fO_53 hW), ↓bnd_of hHt.2.1, ↓gd_pos (fO_T hW hTo), ↓bnd2_of (show cal (q + 1) (fun zz => f_X9_takeOver zz hr sr M) = _ from y1)]
    rfl
  obtain ⟨i1, i2⟩ := ra_loop m 60 0 (by omega) hW1 T1 H1 hHt1 ht R1 hw1 (ks := []) rfl (fun i x q => by simp at q) hnr
  refine ⟨fun e => ?_, fun r e => ?_⟩
  · obtain ⟨M2, a, b, y2, F2, h2⟩ := i1 e
    exact ⟨M2, a, b, e0.trans y2, F1a.trans F2, h2⟩
  · obtain ⟨M2, a, b, y2, F2, h2, R2, K2⟩ := i2 r e
    refine ⟨M2, a, b, ?_, F1a.trans F2, h2, R2, by simpa using K2⟩
    rw [e0, y2, Nat.zero_add]
end NRC
