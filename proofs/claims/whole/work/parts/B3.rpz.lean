/-! PROOF in the reference: the call -/
def gN : Nat → Fm := fun _ => .arg 8
def pfT (r : Tm × List Nat) (y : Nat ⊕ Fm) : (Nat × Nat) ⊕ (Tm × Fm) := match y with
  | .inl e => .inl (5, r.2.getD e 0)
  | .inr x => .inr (r.1, x)
noncomputable def pfX (b : Nat → Nat) (n : Nat) (H : List (Nat × Fm)) : (Nat × Nat) ⊕ (Tm × Fm) := sbg (rdX b n H) (fun r => pfT r (ty (hF H) r.1 0 gN 0))
def SPf (a k : Nat) : Prop := SR a k ∨ (a = 89 ∧ (k = 24 ∨ (27 ≤ k ∧ k ≤ 34) ∨ k = 39 ∨ k = 43)) ∨ a = 105 ∨ a = 106 ∨ (110 ≤ a ∧ a ≤ 115)
section RPZ
variable {M : Mem} {b : Nat → Nat} {c n : Nat} {H : List (Nat × Fm)}
theorem j86g (hW : Wd M) (k : Nat) {s m : Nat} (hs : s < 4) (hm : m ≤ 200) (h24 : M.2.2.1 89 24 = nI m) (h30 : M.2.2.1 89 30 = 0) (h31 : M.2.2.1 89 31 = -1) : ∃ M2, lp (st_X11_proof (k + 1)) (86, [.ref 89, .int (nI s)], M) = some (nI m, M2) ∧ Fr (SSt s m) (wI (wI M 89 32 0) 89 33 (-1)) M2 ∧ M2.2.2.1 104 s = nI m ∧ ∀ u, u < m → M2.2.2.1 102 (200 * s + u) = M.2.2.1 105 u ∧ M2.2.2.1 103 (200 * s + u) = M.2.2.1 106 u := by
  have hW1 : Wd (wI (wI M 89 32 0) 89 33 (-1)) := (hW.wI _ _ _).wI _ _ _
  obtain ⟨M2, e2, r1, r2, r3⟩ := rx_stores hW1 hs hm (show (wI (wI M 89 32 0) 89 33 (-1)).2.2.1 89 24 = nI m from h24) k
  have hW2 := r1.Wd hW1
  have h24' : M2.2.2.1 89 24 = nI m := (r1.int (by unfold SSt; omega)).trans h24
  refine ⟨M2, ?_, r1, r2, r3⟩
  refine (ge_X11_proof_86 (k + 1) 89 _ M).trans ?_
  have e := rx_settles hW k
  rw [h30, h31] at e
  simp only [T_X11_proof_86, W_89 hW, W_89 hW2, gd_true, fO, Nat.reduceLT, and_self, cal_s, bnd2_s, e, if_true, e2, h24']
def PfE (M0 : Mem) (c n : Nat) (M1 : Mem) (c1 : Nat) : Prop := TabR M1 c1 ∧ c ≤ c1 ∧ c1 ≤ c + 120 + n ∧ (∀ i, i < c → dR M1 i = dR M0 i) ∧ WkO M1 c1
set_option maxHeartbeats 1000000 in
theorem rx_proof (hW : Wd M) {L : Nat} (hTp : TpR M b L) (k : Nat) {M0 : Mem} (ht : f_X11_tidies (k + 243) 89 (wI (wI M 89 0 0) 89 24 0) = some ((), M0)) (hF0 : Fr STd (wI (wI M 89 0 0) 89 24 0) M0) (hT : TabR M0 c) (hH : HyR M0 15 96 97 98 c H) (hc0 : 0 < c) (hc : c + 600 ≤ 10000) (x1 x2 : Int32) :
    ((∀ s, s < 4 → x1 ≠ nI s) → f_X11_proof (k + 245) 89 x1 x2 M = some (-2, wI M 89 0 0)) ∧ ∀ s, s < 4 → x1 = nI s →
    ((∀ n, n ≤ L → x2 ≠ nI n) → f_X11_proof (k + 245) 89 x1 x2 M = some (-3, wI M 89 0 0)) ∧ ∀ n, n ≤ L → x2 = nI n →
    (∀ e, pfX b n H = .inl e → ∃ M1 c1, f_X11_proof (k + 245) 89 x1 x2 M = some (-30 - nI e.1, M1) ∧ Fr SPf M0 M1 ∧ M1.2.2.1 89 27 = 0 ∧ M1.2.2.1 89 32 = nI e.1 ∧ M1.2.2.1 89 33 = nI e.2 ∧ PfE M0 c n M1 c1) ∧
    (∀ r, pfX b n H = .inr r → ∃ M1 c1, f_X11_proof (k + 245) 89 x1 x2 M = some (nI (sz r.1), M1) ∧ Fr (fun a k => SPf a k ∨ SSt s (sz r.1) a k) M0 M1 ∧ M1.2.2.1 89 27 = 0 ∧ M1.2.2.1 89 32 = 0 ∧ M1.2.2.1 89 33 = -1 ∧ PfE M0 c n M1 c1 ∧ M1.2.2.1 104 s = nI (sz r.1) ∧ RowR M1 102 103 (200 * s) c1 (rws r.1)) := by
  obtain ⟨pA, pB⟩ := rx_prA hW hTp (k + 62) ht hF0 hT hH hc0 hc x1 x2
  refine ⟨pA, fun s hs hx1 => ⟨(pB s hs hx1).1, fun n hn hx2 => ?_⟩⟩
  obtain ⟨qA, qB⟩ := (pB s hs hx1).2 n hn hx2
  have h6 := hTp.2.1
  have hW0 := hF0.Wd ((hW.wI _ _ _).wI _ _ _)
  have hWb := bgP_Wd hW0 (nI n)
  have Fb : Fr SPf M0 (bgP M0 (nI n)) := (bgP_Fr (nI n)).mono (fun a k q => by unfold SPf; omega)
  have b27 : (bgP M0 (nI n)).2.2.1 89 27 = 0 := rfl
  unfold pfX
  cases hr : rdX b n H with
  | inl e0 =>
    rw [sbg_l]
    refine ⟨fun e q => ?_, fun r q => (by cases q)⟩
    cases q
    obtain ⟨M1, e1, f1⟩ := qA e0 hr
    obtain ⟨F1, -, -, -, c1, T1, l1, l2, d1, w1⟩ := f1
    have F2 : Fr SPf M0 M1 := Fb.trans (F1.mono (fun a k q => by unfold SRy SR at q; unfold SPf SR; omega))
    refine ⟨_, c1, e1, (F2.wI (by unfold SPf; omega) _).wI (by unfold SPf; omega) _, ?_, by simp [up2_if], by simp [up2_if], T1, l1, by omega, d1, w1⟩
    exact (F1.int (by unfold SRy SR; omega)).trans b27
  | inr r0 =>
    rw [sbg_r]
    obtain ⟨M1, c1, G1, S1, e1⟩ := qB r0 hr
    obtain ⟨o1, o2, o3, o4, o5⟩ := rdX_ok hH.2.1 hr
    have hW1 := S1.1
    obtain ⟨F1, l1, l2, d1⟩ := G1
    have F2 : Fr SPf M0 M1 := Fb.trans (F1.mono (fun a k q => by unfold SRy SR at q; unfold SPf SR; omega))
    obtain ⟨v, c2, M2, e2, B2, res⟩ := rx_provesT o1 S1 o3 o4 (by omega) (by omega) k gN
    have hW2 : Wd M2 := B2.wd (hW1.wI _ _ _)
    have e3 := e1 v M2 e2 hW2
    obtain ⟨F3, T2, m1, m2, d2⟩ := B2
    have F4 : Fr SPf M0 M2 := (F2.wI (a := 89) (k := 43) (by unfold SPf; omega) 0).trans (F3.mono (fun a k q => by unfold SAq SR at q; unfold SPf SR; omega))
    have g27 : M2.2.2.1 89 27 = 0 := (F3.int (by unfold SAq SR; omega)).trans ((F1.int (by unfold SRy SR; omega)).trans b27)
    have g24 : M2.2.2.1 89 24 = M1.2.2.1 89 24 := F3.int (by unfold SAq SR; omega)
    have g105 : M2.2.2.1 105 = M1.2.2.1 105 := funext fun i => F3.int (by unfold SAq SR; omega)
    have g106 : M2.2.2.1 106 = M1.2.2.1 106 := funext fun i => F3.int (by unfold SAq SR; omega)
    have hd : ∀ i, i < c1 → dR M2 i = dR M1 i := d2
    have hwk : WkO M2 c2 := S1.ok (by rw [rws_len]; omega) g24 g105 g106 hd m1
    have hdd : ∀ i, i < c → dR M2 i = dR M0 i := fun i hi => (hd i (by omega)).trans (d1 i hi)
    rcases res with ⟨e, h1, h2, h3, h4⟩ | ⟨x, u, h1, h2, h3, h4, h5, h6', -⟩
    · rw [h2]
      refine ⟨fun e' q => ?_, fun r q => (by cases q)⟩
      cases q
      have hpl : M2.2.2.1 89 31 = nI (r0.2.getD e 0) := by
        rw [h4]
        have hlt : e < r0.2.length := by omega
        exact S1.2.2.2.2.2.1.1 e _ (by rw [List.getD_eq_getElem?_getD, List.getElem?_eq_getElem hlt]; rfl)
      have e4 := j86 hW2 (k + 244) x1 (by rw [h3]; decide)
      rw [h3, hpl] at e4
      refine ⟨_, c2, e3.trans e4, (F4.wI (by unfold SPf; omega) _).wI (by unfold SPf; omega) _, g27, by simp [up2_if]; rfl, by simp [up2_if], T2, by omega, by omega, hdd, hwk⟩
    · rw [h1]
      refine ⟨fun e' q => (by cases q), fun r q => ?_⟩
      cases q
      have h24 : M2.2.2.1 89 24 = nI (sz r0.1) := g24.trans S1.2.2.2.2.1.1
      obtain ⟨M3, e4, F5, g104, g102⟩ := j86g hW2 (k + 244) hs (show sz r0.1 ≤ 200 by omega) h24 h5 h6'
      rw [← hx1] at e4
      have F6 : Fr (fun a k => SPf a k ∨ SSt s (sz r0.1) a k) M0 M3 := ((((F4.wI (a := 89) (k := 32) (by unfold SPf; omega) 0).wI (a := 89) (k := 33) (by unfold SPf; omega) (-1))).mono (fun a k q => Or.inl q)).trans (F5.mono (fun a k q => Or.inr q))
      obtain ⟨T3, d3⟩ := tabR_mv (M := wI (wI M2 89 32 0) 89 33 (-1)) T2 F5 (by unfold SSt; omega) (fun a k q => by unfold SSt at q; omega)
      have d3' : ∀ i, dR M3 i = dR M2 i := d3
      have i105 : M3.2.2.1 105 = M1.2.2.1 105 := by rw [← g105]; exact funext fun i => F5.int (by unfold SSt; omega)
      have i106 : M3.2.2.1 106 = M1.2.2.1 106 := by rw [← g106]; exact funext fun i => F5.int (by unfold SSt; omega)
      have i24 : M3.2.2.1 89 24 = M1.2.2.1 89 24 := by rw [← g24]; exact F5.int (by unfold SSt; omega)
      refine ⟨M3, c2, e3.trans e4, F6, (F5.int (by unfold SSt; omega)).trans g27, (F5.int (by unfold SSt; omega)).trans (by simp [up2_if]), (F5.int (by unfold SSt; omega)).trans (by simp [up2_if]), ⟨T3, by omega, by omega, fun i hi => (d3' i).trans (hdd i hi), S1.ok (by rw [rws_len]; omega) i24 i105 i106 (fun i hi => (d3' i).trans (hd i hi)) m1⟩, g104, ?_⟩
      have R1 := S1.2.2.2.2.1.2.1
      refine ⟨R1.1, fun i nd q => ?_⟩
      have hi : i < sz r0.1 := by
        have := (List.getElem?_eq_some_iff.mp q).1
        rw [rws_len] at this
        exact this
      obtain ⟨y1, y2⟩ := R1.2 i nd q
      obtain ⟨z1, z2⟩ := g102 i hi
      rw [Nat.zero_add] at y1 y2
      rw [z1, z2, g105, g106]
      refine ⟨y1, y2.1, fun q => ?_, y2.2.2⟩
      obtain ⟨j, j1, j2, j3⟩ := y2.2.1 q
      exact ⟨j, by omega, j2, (d3' j).trans ((hd j j1).trans j3)⟩
end RPZ
