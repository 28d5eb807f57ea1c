/-! PROOF in the class: the call -/
theorem ty_lt {H : Nat → Fm} : ∀ t, isT t → ∀ {p : Nat} {G : Nat → Fm} {d e : Nat}, ty H t p G d = .inl e → p ≤ e ∧ e < p + sz t := by
  apply tm_ind
  · intro k p G d e h; rw [ty_L] at h; cases h
  · intro k p G d e h; rw [ty_H] at h; cases h
  · intro o f a _ ha ih p G d e h
    have hp := sz_pos a ha
    rw [ty_U] at h
    rw [sz_U]
    cases hx : ty H a (p + 1) (if o = 2 then ups G d f else G) (d + amN o 0) with
    | inl e1 => rw [hx, sbd_l] at h; cases h; have := ih hx; omega
    | inr x =>
      rw [hx, sbd_r] at h
      unfold tyU at h
      split at h
      · cases h
      · cases h; omega
  · intro o a b _ ha hb ia ib p G d e h
    have hpa := sz_pos a ha
    have hpb := sz_pos b hb
    rw [ty_B] at h
    rw [sz_B]
    cases hx : ty H a (p + 1) G d with
    | inl e1 => rw [hx, sbd_l] at h; cases h; have := ia hx; omega
    | inr x =>
      rw [hx, sbd_r] at h
      cases hy : ty H b (p + 1 + sz a) G d with
      | inl e1 => rw [hy, sbd_l] at h; cases h; have := ib hy; omega
      | inr y =>
        rw [hy, sbd_r] at h
        unfold tyB at h
        split at h
        · cases h
        · have h := Sum.inl.inj h
          split at h <;> omega
  · intro m a b hm ha hb im ia ib p G d e h
    have hpm := sz_pos m hm
    have hpa := sz_pos a ha
    have hpb := sz_pos b hb
    rw [ty_C] at h
    rw [sz_C]
    cases hx : ty H m (p + 1) G d with
    | inl e1 => rw [hx, sbd_l] at h; cases h; have := im hx; omega
    | inr x =>
      rw [hx, sbd_r] at h
      cases ho : dO x with
      | none =>
        rw [ho] at h
        have h : (Sum.inl (p + 1) : Nat ⊕ Fm) = .inl e := h
        cases h
        omega
      | some yz =>
        rw [ho] at h
        have h : sbd (ty H a (p + 1 + sz m) (ups G d yz.1) (d + 1)) (fun u => sbd (ty H b (p + 1 + sz m + sz a) (ups G d yz.2) (d + 1)) (fun w => tyE u w (p + 1 + sz m + sz a))) = .inl e := h
        cases hu : ty H a (p + 1 + sz m) (ups G d yz.1) (d + 1) with
        | inl e1 => rw [hu, sbd_l] at h; cases h; have := ia hu; omega
        | inr u =>
          rw [hu, sbd_r] at h
          cases hw : ty H b (p + 1 + sz m + sz a) (ups G d yz.2) (d + 1) with
          | inl e1 => rw [hw, sbd_l] at h; cases h; have := ib hw; omega
          | inr w =>
            rw [hw, sbd_r] at h
            unfold tyE at h
            split at h
            · cases h
            · cases h; omega
def unR (M M1 : Mem) : Mem := (M1.1, M1.2.1, M1.2.2.1, M1.2.2.2.1, M.2.2.2.2)
theorem Fq.un {S : Nat → Nat → Prop} {M M1 : Mem} (h : Fq S M M1) : Fr S M (unR M M1) := ⟨h.1, h.2.1, rfl, h.2.2.2⟩
theorem tab_mq {S : Nat → Nat → Prop} {M M1 : Mem} {c : Nat} (h : TabC M c) (hF : Fq S M M1) (hS : ∀ a k, S a k → 10 ≤ a) : TabC M1 c ∧ ∀ i, dC M1 i = dC M i := by
  have := tab_mv h hF.un hS
  exact this
theorem HyC.uq {S : Nat → Nat → Prop} {M M1 : Mem} {c c1 : Nat} {Hl : List (Nat × Fm)} (h : HyC M 10 c Hl) (hF : Fq S M M1) (hS : ∀ a k, S a k → a ≤ 9 ∨ 14 ≤ a) (hd : ∀ i, i < c → dC M1 i = dC M i) (hc : c ≤ c1) : HyC M1 10 c1 Hl := by
  have := h.up (c1 := c1) hF.un hS (fun i hi => (show dC (unR M M1) i = dC M1 i from rfl).trans (hd i hi)) hc
  exact this
theorem pfX_ok {b : Nat → Nat} {n : Nat} {H : List (Nat × Fm)} (hH : H.length ≤ 6) {r : Tm × Fm} (h : pfX b n H = .inr r) : isT r.1 ∧ scp r.1 0 ∧ shp H.length r.1 ∧ sz r.1 ≤ 120 ∧ ty (hF H) r.1 0 gN 0 = .inr r.2 := by
  obtain ⟨s, e, h⟩ := sbg_in h
  obtain ⟨o1, o2, o3, o4, o5⟩ := rdX_ok hH e
  cases hy : ty (hF H) s.1 0 gN 0 with
  | inl e => rw [hy] at h; cases h
  | inr x =>
    rw [hy] at h
    cases h
    exact ⟨o1, o3, o4, by show sz s.1 ≤ 120; omega, hy⟩
def SPc (a k : Nat) : Prop := SRx a k ∨ SAg a k ∨ a = 48 ∨ (a = 0 ∧ k = 1)
def PcE (M : Mem) (c n : Nat) (M1 : Mem) (c1 : Nat) : Prop := TabC M1 c1 ∧ c ≤ c1 ∧ 2 * c1 ≤ 2 * c + n + 1 ∧ ∀ i, i < c → dC M1 i = dC M i
section CPF
variable {M : Mem} {b : Nat → Nat} {H : List (Nat × Fm)}
theorem fO_0 (hW : Wd M) : fO M 0 10 := ⟨by rw [hW.1]; omega, s_0 hW⟩
theorem fO_40 (hW : Wd M) : fO M 40 3 := ⟨by rw [hW.1]; omega, s_40 hW⟩
theorem fO_37 (hW : Wd M) : fO M 37 9 := ⟨by rw [hW.1]; omega, s_37 hW⟩
theorem fO_s (hW : Wd M) {s : Nat} (hs : s < 4) : fO M (25 + 3 * s) 9 := ⟨by rw [hW.1]; exact (slot_at hW hs).2.2, (slot_at hW hs).2.1⟩
theorem fA_24 (hW : Wd M) {s : Nat} (hs : s < 4) : fA M 24 4 (nI s) := ⟨by rw [hW.1]; omega, 4, s_24 hW, vp_nI hs (by omega)⟩
set_option maxHeartbeats 1000000 in
theorem c_proof (hW : Wd M) {L : Nat} (hTp : TpC M b L) (hPw : PwC M) {c : Nat} (hT : TabC M c) (hH : HyC M 10 c H) (hc : 2 * c + L + 1 ≤ 10300) (k : Nat) (x1 x2 : Int32) :
    ((∀ s, s < 4 → x1 ≠ nI s) → f_X10_proof (k + 6) 0 x1 x2 M = some (-2, M)) ∧ ∀ s, s < 4 → x1 = nI s →
    ((∀ n, n ≤ L → x2 ≠ nI n) → f_X10_proof (k + 6) 0 x1 x2 M = some (-3, M)) ∧ ∀ n, n ≤ L → x2 = nI n →
    (∀ e, pfX b n H = .inl e → ∃ M1 c1, f_X10_proof (k + 6) 0 x1 x2 M = some (-30 - nI e.1, M1) ∧ Fq SPc M M1 ∧ M1.2.2.1 0 1 = 0 ∧ FlC M1 e ∧ PcE M c n M1 c1 ∧ ∀ k, M1.2.2.2.2 53 k = M.2.2.2.2 53 k) ∧
    (∀ r, pfX b n H = .inr r → ∃ M1 c1, f_X10_proof (k + 6) 0 x1 x2 M = some (nI (sz r.1), M1) ∧ Fq (fun a k => SPc a k ∨ SO (25 + 3 * s) a k) M M1 ∧ M1.2.2.1 0 1 = 0 ∧ M1.2.2.1 14 17 = 0 ∧ M1.2.2.1 14 18 = -1 ∧ PcE M c n M1 c1 ∧ RowC M1 (25 + 3 * s) c1 (rws r.1) ∧ M1.2.2.1 (25 + 3 * s) 3 = 0 ∧ Wt (fun _ f => Inn M1 c1 f) H.length (hF H) r.1 0 gN 0 r.2 ∧ ∀ k, M1.2.2.2.2 53 k = M.2.2.2.2 53 k) := by
  obtain ⟨m, hm⟩ : ∃ m, m = k + 5 := ⟨_, rfl⟩
  obtain ⟨nA, nB⟩ := c_noSlot (M := M) m x1
  obtain ⟨tA, tB⟩ := c_tapeLacks hW hTp.1 hTp.2.1 m x2
  rw [show k + 6 = m + 1 by omega]
  have hO := fO_0 hW
  have une : ((1 : Int32) = 0) = False := eq_false (by decide)
  refine ⟨fun h => ?_, fun s hs hx1 => ⟨fun h => ?_, fun n hn hx2 => ?_⟩⟩
  · have e := nB h
    show T_X10_proof_0 (fun v M => some (v, M)) none (m + 1) 0 x1 x2 M = _
    unfold T_X10_proof_0
    simp only [↓reduceIte, ↓bnd2_of (show cal (m + 1) (fun zz => f_X10_noSlot zz x1 M) = _ from e), une]
  · have e := nA s hs hx1
    have e2 := tB h
    show T_X10_proof_0 (fun v M => some (v, M)) none (m + 1) 0 x1 x2 M = _
    unfold T_X10_proof_0
    simp only [↓reduceIte, ↓bnd2_of (show cal (m + 1) (fun zz => f_X10_noSlot zz x1 M) = _ from e), ↓gd_pos hO, ↓bnd2_of (show cal (m + 1) (fun zz => f_X10_tapeLacks zz 0 x2 M) = _ from e2), une]
  · have e := nA s hs hx1
    have e2 := tA n hn hx2
    subst hx1 hx2
    have h6 := hTp.2.1
    have h6H := hH.2.1
    have hW0 : Wd (wI M 0 1 0) := hW.wI _ _ _
    have F0 : Fr SPc M (wI M 0 1 0) := Fr.refl.wI (by unfold SPc; omega) _
    have hO0 : fO M 14 6 := fO_14 hW
    obtain ⟨gA, gB⟩ := c_readTerm (M := wI M 0 1 0) (b := b) (n := n) (H := H) (c := c) hW0 (fun i hi => hTp.2.2 i (by omega)) (by omega) hPw hT hH (by omega) k
    rw [← hm] at gA gB
    unfold pfX
    cases hr : rdX b n H with
    | inl e0 =>
      rw [sbg_l]
      refine ⟨fun e' q => ?_, fun r q => (by cases q)⟩
      cases q
      obtain ⟨M1, c1, y1, F1, f1, T1, l1, l2, d1⟩ := gA e0 hr
      have hW1 := F1.Wd hW0
      refine ⟨M1, c1, ?_, (F0.trans (F1.mono (fun a k q => Or.inl q))).q, (F1.int (by unfold SRx SRt SF SO; omega)).trans (by simp [up2_if]), f1, ⟨T1, l1, by omega, d1⟩, fun k => by rw [F1.2.2.1]⟩
      show T_X10_proof_0 (fun v M => some (v, M)) none (m + 1) 0 (nI s) (nI n) M = _
      unfold T_X10_proof_0
      simp only [↓reduceIte, ↓bnd2_of (show cal (m + 1) (fun zz => f_X10_noSlot zz (nI s) M) = _ from e), ↓gd_pos hO, ↓bnd2_of (show cal (m + 1) (fun zz => f_X10_tapeLacks zz 0 (nI n) M) = _ from e2), ↓bnd_of (r_0_4 hW), ↓bnd_of (r_0_3 hW), ↓bnd_of (r_0_6 hW), ↓gd_pos hO0, ↓bnd2_of (show cal (m + 1) (fun zz => f_X6_readTerm zz 14 (nI n) 10 37 (wI M 0 1 0)) = _ from y1), ↓gd_pos (fO_0 hW1), ↓bnd_of (r_0_4 hW1), ↓gd_pos (fO_14 hW1), f1.1]
    | inr r0 =>
      rw [sbg_r]
      obtain ⟨o1, o2, o3, o4, o5⟩ := rdX_ok h6H hr
      obtain ⟨M1, c1, y1, F1, z17, z18, R1, P1, T1, H1, l1, l2, d1⟩ := gB r0 hr
      have hW1 := F1.Wd hW0
      obtain ⟨M2, y2, F2, L2, E2, Y2, w2, rf2⟩ := c_arrangeR hW1 (tr := 37) (by unfold TOb; omega) o1 R1 o3 (k + 2)
      have hW2 := F2.Wd hW1
      obtain ⟨T2, d2⟩ := tab_mq T1 F2 (fun a k q => by unfold SAg at q; omega)
      have H2 : HyC M2 10 c1 H := H1.uq F2 (fun a k q => by unfold SAg at q; omega) (fun i _ => d2 i) (Nat.le_refl _)
      obtain ⟨c2, M3, B3, -, res⟩ := c_ask (G := gN) o1 L2 T2 H2 E2 Y2 w2 o3 o4 (Or.inl (by omega)) (k + 2)
      rw [show k + 2 + 3 = m by omega] at y2 res
      have hW3 : Wd M3 := B3.1.Wd hW2
      have F03 : Fq SPc M M3 := ((F0.trans (F1.mono (fun a k q => Or.inl q))).q.trans (F2.mono (fun a k q => Or.inr (Or.inl q)))).trans (B3.1.mono (fun a k q => by unfold SAk at q; unfold SPc SRx SRt; rcases q with q | q; exact Or.inl (Or.inl (Or.inl q)); omega)).q
      have i3 : ∀ j, M3.2.2.1 14 j = M1.2.2.1 14 j := fun j => (B3.int (by omega) (by omega)).trans (F2.int (by unfold SAg; omega))
      have z01 : M3.2.2.1 0 1 = 0 := by
        rw [B3.1.int (by unfold SAk SF; omega), F2.int (by unfold SAg; omega), F1.int (by unfold SRx SRt SF SO; omega)]
        simp [up2_if]
      have d3 : ∀ i, i < c → dC M3 i = dC M i := fun i hi => (B3.2.2.2.2 i (by omega)).trans ((d2 i).trans (d1 i hi))
      have rf3 : ∀ k, M3.2.2.2.2 53 k = M.2.2.2.2 53 k := fun k => by rw [B3.1.2.2.1, rf2 53 k (by omega), F1.2.2.1]
      have l3 := B3.2.2.1
      have l4 := B3.2.2.2.1
      rcases res with ⟨e5, h1, h2, y3⟩ | ⟨x, h2, wt, y3⟩
      · rw [h2]
        refine ⟨fun e' q => ?_, fun r q => (by cases q)⟩
        cases q
        have he := (ty_lt r0.1 o1 h2).2
        have y4 := c_blameTerm hW3 (k + 4) (i := e5) (by omega)
        rw [show k + 4 + 1 = m by omega] at y4
        have h23 : M3.2.2.1 23 e5 = nI (r0.2.getD e5 0) := by
          rw [B3.int (by omega) (by omega), F2.int (by unfold SAg; omega)]
          have hlt : e5 < r0.2.length := by omega
          exact P1 e5 _ (by rw [List.getD_eq_getElem?_getD, List.getElem?_eq_getElem hlt]; rfl)
        rw [h23] at y4
        obtain ⟨M4, hM4⟩ : ∃ M4, M4 = wI (wI M3 14 17 5) 14 18 (nI (r0.2.getD e5 0)) := ⟨_, rfl⟩
        rw [← hM4] at y4
        have g17 : M4.2.2.1 14 17 = nI 5 := by rw [hM4]; simp [up2_if]; rfl
        have g18 : M4.2.2.1 14 18 = nI (r0.2.getD e5 0) := by rw [hM4]; simp [up2_if]
        have F4 : Fr SPc M3 M4 := by
          rw [hM4]
          exact (Fr.refl.wI (by unfold SPc SRx SRt; omega) _).wI (by unfold SPc SRx SRt; omega) _
        have F4' : Fr (fun a k => a = 14) M3 M4 := by
          rw [hM4]
          exact (Fr.refl.wI (S := fun a k => a = 14) rfl _).wI (S := fun a k => a = 14) rfl _
        have hW4 := F4.Wd hW3
        obtain ⟨T4, d4⟩ := tab_mv B3.2.1 F4' (fun a k q => by omega)
        refine ⟨M4, c2, ?_, F03.trans F4.q, (F4'.int (by omega)).trans z01, ⟨g17, g18⟩, ⟨T4, by omega, by omega, fun i hi => (d4 i).trans (d3 i hi)⟩, fun k => by rw [F4.2.2.1]; exact rf3 k⟩
        show T_X10_proof_0 (fun v M => some (v, M)) none (m + 1) 0 (nI s) (nI n) M = _
        unfold T_X10_proof_0
        simp (disch := omega) only [↓reduceIte, ↓bnd2_of (show cal (m + 1) (fun zz => f_X10_noSlot zz (nI s) M) = _ from e), ↓gd_pos hO, ↓bnd2_of (show cal (m + 1) (fun zz => f_X10_tapeLacks zz 0 (nI n) M) = _ from e2), ↓bnd_of (r_0_4 hW), ↓bnd_of (r_0_3 hW), ↓bnd_of (r_0_6 hW), ↓gd_pos hO0, ↓bnd2_of (show cal (m + 1) (fun zz => f_X6_readTerm zz 14 (nI n) 10 37 (wI M 0 1 0)) = _ from y1), une, ↓gd_pos (fO_0 hW1), ↓bnd_of (r_0_7 hW1), ↓bnd_of (r_0_6 hW1), ↓gd_pos (fO_40 hW1), ↓bnd2_of (show cal (m + 1) (fun zz => f_X3_arrange zz 40 37 M1) = _ from y2), ↓gd_pos (fO_0 hW2), ↓bnd_of (r_0_7 hW2), ↓gd_pos (fO_40 hW2), ↓bnd2_of (show cal (m + 1) (fun zz => f_X3_ask zz 40 M2) = _ from y3), nI_ne_m1, ↓gd_pos (fO_0 hW3), ↓bnd_of (r_0_4 hW3), ↓gd_pos (fO_14 hW3), ↓bnd2_of (show cal (m + 1) (fun zz => f_X6_blameTerm zz 14 (nI e5) M3) = _ from y4), ↓gd_pos (fO_0 hW4), ↓bnd_of (r_0_4 hW4), ↓gd_pos (fO_14 hW4), g17]
      · rw [h2]
        refine ⟨fun e' q => (by cases q), fun r q => ?_⟩
        cases q
        have R3 : RowC M3 37 c2 (rws r0.1) := (B3.lt L2).2.2.2
        obtain ⟨M4, y4, F4, R4, g3⟩ := c_takeOver hW3 (tr := 25 + 3 * s) (by unfold TOb; omega) (tq := 37) (by unfold TOb; omega) (by omega) R3 (k + 4)
        rw [show k + 4 + 1 = m by omega] at y4
        have hW4 := F4.Wd hW3
        obtain ⟨T4, d4⟩ := tab_mv B3.2.1 F4 (fun a k q => by unfold SO at q; omega)
        have g37 : M4.2.2.1 37 2 = nI (sz r0.1) := (F4.int (by unfold SO; omega)).trans R3.1
        refine ⟨M4, c2, ?_, (F03.mono (fun a k q => Or.inl q)).trans (F4.mono (fun a k q => Or.inr q)).q, (F4.int (by unfold SO; omega)).trans z01, ?_, ?_, ⟨T4, by omega, by omega, fun i hi => (d4 i).trans (d3 i hi)⟩, R4, g3, ?_, fun k => by rw [F4.2.2.1]; exact rf3 k⟩
        · show T_X10_proof_0 (fun v M => some (v, M)) none (m + 1) 0 (nI s) (nI n) M = _
          have hA := fA_24 hW3 hs
          have hS := (slot_at hW3 hs).1
          have hOs := fO_s hW3 hs
          unfold T_X10_proof_0
          simp (disch := omega) only [↓reduceIte, ↓bnd2_of (show cal (m + 1) (fun zz => f_X10_noSlot zz (nI s) M) = _ from e), ↓gd_pos hO, ↓bnd2_of (show cal (m + 1) (fun zz => f_X10_tapeLacks zz 0 (nI n) M) = _ from e2), ↓bnd_of (r_0_4 hW), ↓bnd_of (r_0_3 hW), ↓bnd_of (r_0_6 hW), ↓gd_pos hO0, ↓bnd2_of (show cal (m + 1) (fun zz => f_X6_readTerm zz 14 (nI n) 10 37 (wI M 0 1 0)) = _ from y1), une, ↓gd_pos (fO_0 hW1), ↓bnd_of (r_0_7 hW1), ↓bnd_of (r_0_6 hW1), ↓gd_pos (fO_40 hW1), ↓bnd2_of (show cal (m + 1) (fun zz => f_X3_arrange zz 40 37 M1) = _ from y2), ↓gd_pos (fO_0 hW2), ↓bnd_of (r_0_7 hW2), ↓gd_pos (fO_40 hW2), ↓bnd2_of (show cal (m + 1) (fun zz => f_X3_ask zz 40 M2) = _ from y3), ↓gd_pos (fO_0 hW3), ↓bnd_of (r_0_5 hW3), ↓gd_pos hA, nI_z, ↓bnd_of hS, ↓bnd_of (r_0_6 hW3), ↓gd_pos hOs, ↓bnd2_of (show cal (m + 1) (fun zz => f_X9_takeOver zz (25 + 3 * s) 37 M3) = _ from y4), ↓gd_pos (fO_0 hW4), ↓bnd_of (r_0_6 hW4), ↓gd_pos (fO_37 hW4), g37]
        · exact (F4.int (by unfold SO; omega)).trans ((i3 17).trans z17)
        · exact (F4.int (by unfold SO; omega)).trans ((i3 18).trans z18)
        · exact wt.imp r0.1 o1 (fun i y _ _ q => by
            obtain ⟨v, v1, -, v3⟩ := q
            exact ⟨v, v1, (d4 v).trans v3⟩)
end CPF
