/-! STEP, the call, in class and reference -/
def GlC (M : Mem) (c : Nat) (gf : Fm) : Prop := ∃ v, v < c ∧ M.2.2.1 0 16 = nI v ∧ dC M v = gf ∧ M.2.2.1 0 17 = nI (wdf gf)
def SlC (M : Mem) (c : Nat) (T : Nat → Option Tm) : Prop := ∀ s, s < 4 → (T s = none → M.2.2.1 (25 + 3 * s) 2 = 0) ∧ ∀ t, T s = some t → RowC M (25 + 3 * s) c (rws t)
/-- the two Terms that are reduced into each other -/
def HtC (M : Mem) (hr tr : Nat) : Prop := ((hr = 60 ∧ tr = 63) ∨ (hr = 63 ∧ tr = 60)) ∧ M.2.2.2.2 53 3 = some hr ∧ M.2.2.2.2 53 4 = some tr
def ClS (M : Mem) (c : Nat) (H : List (Nat × Fm)) (gf : Fm) (T : Nat → Option Tm) : Prop := Wd M ∧ PwC M ∧ TabC M c ∧ HyC M 10 c H ∧ GlC M c gf ∧ SlC M c T ∧ ∃ hr tr, HtC M hr tr
section STC
variable {M M1 : Mem} {c c1 : Nat} {H : List (Nat × Fm)} {gf : Fm} {T : Nat → Option Tm}
theorem ClS.mq {S : Nat → Nat → Prop} (h : ClS M c H gf T) (hF : Fq S M M1) (hS : ∀ a k, S a k → ¬ (10 ≤ a ∧ a ≤ 13) ∧ a ≠ 15 ∧ ¬ (25 ≤ a ∧ a ≤ 36) ∧ ¬ (a = 0 ∧ (k = 16 ∨ k = 17))) (hT : TabC M1 c1) (hd : ∀ i, i < c → dC M1 i = dC M i) (hc : c ≤ c1) (hrf : ∀ k, 3 ≤ k → M1.2.2.2.2 53 k = M.2.2.2.2 53 k) : ClS M1 c1 H gf T := by
  obtain ⟨hW, hP, -, hH, ⟨v, v1, v2, v3, v4⟩, hSl, hr, tr, ht1, ht2, ht3⟩ := h
  refine ⟨hF.Wd hW, fun w hw => (hF.lng (fun q => (hS _ _ q).2.1 rfl)).trans (hP w hw), hT, ?_, ⟨v, by omega, (hF.int (fun q => (hS _ _ q).2.2.2 (by omega))).trans v2, (hd v v1).trans v3, (hF.int (fun q => (hS _ _ q).2.2.2 (by omega))).trans v4⟩, fun s hs => ⟨fun q => ?_, fun t q => ?_⟩, hr, tr, ht1, (hrf 3 (by omega)).trans ht2, (hrf 4 (by omega)).trans ht3⟩
  · refine ⟨(hF.int (fun q => (hS _ _ q).1 (by omega))).trans hH.1, hH.2.1, fun j hj => ?_⟩
    obtain ⟨u, u1, u2, u3, u4, u5, u6⟩ := hH.2.2 j hj
    exact ⟨u, by omega, (hF.int (fun q => (hS _ _ q).1 (by omega))).trans u2, (hF.int (fun q => (hS _ _ q).1 (by omega))).trans u3, (hd u u1).trans u4, (hF.int (fun q => (hS _ _ q).1 (by omega))).trans u5, u6⟩
  · exact (hF.int (fun q => (hS _ _ q).2.2.1 (by omega))).trans ((hSl s hs).1 q)
  · exact ((hSl s hs).2 t q).mv (hF.int (fun q => (hS _ _ q).2.2.1 (by omega))) (hF.ints (fun k q => (hS _ _ q).2.2.1 (by omega))) (hF.ints (fun k q => (hS _ _ q).2.2.1 (by omega))) hd hc
/-- the state is kept where none of it is written -/
theorem ClS.wq {S : Nat → Nat → Prop} (h : ClS M c H gf T) (hF : Fq S M M1) (hS : ∀ a k, S a k → 14 ≤ a ∧ a ≠ 15 ∧ ¬ (25 ≤ a ∧ a ≤ 36)) (hrf : ∀ k, 3 ≤ k → M1.2.2.2.2 53 k = M.2.2.2.2 53 k) : ClS M1 c H gf T := by
  obtain ⟨T1, d1⟩ := tab_mq h.2.2.1 hF (fun a k q => by have := hS _ _ q; omega)
  exact h.mq hF (fun a k q => by have := hS _ _ q; omega) T1 (fun i _ => d1 i) (Nat.le_refl _) hrf
/-- a slot is filled -/
theorem ClS.st (h : ClS M c H gf T) {s : Nat} (hs : s < 4) {t : Tm} (hF : Fr (SO (25 + 3 * s)) M M1) (hR : RowC M1 (25 + 3 * s) c (rws t)) : ClS M1 c H gf (ups T s (some t)) := by
  have hT : TOb (25 + 3 * s) := by unfold TOb; omega
  obtain ⟨T1, d1⟩ := tab_mv h.2.2.1 hF (fun a k q => by have := q.not_low hT; omega)
  obtain ⟨hW, hP, -, hH, ⟨v, v1, v2, v3, v4⟩, hSl, hHt⟩ := h
  refine ⟨hF.Wd hW, fun w hw => (hF.lng (fun q => by have := q.not_low hT; omega)).trans (hP w hw), T1, hH.up hF (fun a k q => by have := q.not_low hT; omega) (fun i _ => d1 i) (Nat.le_refl _), ⟨v, v1, (hF.int (fun q => by have := q.not_low hT; omega)).trans v2, (d1 v).trans v3, (hF.int (fun q => by have := q.not_low hT; omega)).trans v4⟩, fun r hr => ?_, by unfold HtC; rw [hF.2.2.1]; exact hHt⟩
  by_cases e : r = s
  · subst e
    rw [ups_at]
    exact ⟨fun q => (by cases q), fun u q => by cases q; exact hR⟩
  · rw [ups_ne _ _ e]
    have sep : ∀ a k, SO (25 + 3 * s) a k → a ≠ 25 + 3 * r ∧ a ≠ 25 + 3 * r + 1 ∧ a ≠ 25 + 3 * r + 2 := fun a k q => by unfold SO at q; omega
    exact ⟨fun q => (hF.int (fun z => (sep _ _ z).1 rfl)).trans ((hSl r hr).1 q), fun u q => ((hSl r hr).2 u q).mv (hF.int (fun z => (sep _ _ z).1 rfl)) (hF.ints (fun k z => (sep _ _ z).2.1 rfl)) (hF.ints (fun k z => (sep _ _ z).2.2 rfl)) (fun i _ => d1 i) (Nat.le_refl _)⟩
def SCs (a k : Nat) : Prop := SO 37 a k ∨ SAg a k ∨ a = 48
theorem sl_ne (h : ClS M c H gf T) {s : Nat} (hs : s < 4) {t : Tm} (ht : isT t) (hT : T s = some t) : (M.2.2.1 (25 + 3 * s) 2 = 0) = False := by
  have hR := (h.2.2.2.2.2.1 s hs).2 t hT
  have hp := sz_pos t ht
  have h2 := hR.2.1
  rw [hR.1, rws_len]
  rw [rws_len] at h2
  exact eq_false (fun q => by have := (nI_eq (b := 0) (by omega) (by omega)).mp q; omega)
set_option maxHeartbeats 1000000 in
theorem c_step (h : ClS M c H gf T) (k : Nat) (x : Int32) :
    ((∀ s, s < 4 → x ≠ nI s) → f_X10_step (k + 5) 0 x M = some (-2, M)) ∧ ∀ s, s < 4 → x = nI s →
    (T s = none → f_X10_step (k + 5) 0 x M = some (-5, M)) ∧ ∀ t y, T s = some t → isT t → Wc (Inn M c) H.length (hF H) t 0 gN 0 y →
    (frx (rws t) (sz t) 0 = none → f_X10_step (k + 5) 0 x M = some (0, M)) ∧ ∀ kd t', StT H.length (hF H) t kd t' →
    (200 < sz t' → ∃ M1, f_X10_step (k + 5) 0 x M = some (-4, M1) ∧ Fq SCs M M1 ∧ ClS M1 c H gf T) ∧
    (sz t' ≤ 200 → ∃ M1, f_X10_step (k + 5) 0 x M = some (nI kd, M1) ∧ Fq (fun a k => SCs a k ∨ SO (25 + 3 * s) a k) M M1 ∧ ClS M1 c H gf (ups T s (some t'))) := by
  have h0 := h
  obtain ⟨hW, hP, hTb, hH, hG, hSl, hHt⟩ := h
  obtain ⟨q, hq⟩ : ∃ q, q = k + 4 := ⟨_, rfl⟩
  obtain ⟨nA, nB⟩ := c_noSlot (M := M) q x
  rw [show k + 5 = q + 1 by omega]
  have hO := fO_0 hW
  have une : ((1 : Int32) = 0) = False := eq_false (by decide)
  refine ⟨fun hx => ?_, fun s hs hx => ?_⟩
  · have e := nB hx
    show T_X10_step_0 (fun v M => some (v, M)) none (q + 1) 0 x M = _
    unfold T_X10_step_0
    simp only [↓reduceIte, ↓bnd2_of (show cal (q + 1) (fun zz => f_X10_noSlot zz x M) = _ from e), une]
  · have e := nA s hs hx
    subst hx
    have hA := fA_24 hW hs
    have hS := (slot_at hW hs).1
    have hOs := fO_s hW hs
    refine ⟨fun hN => ?_, fun t y hTs ht hw => ?_⟩
    · have hz := (hSl s hs).1 hN
      show T_X10_step_0 (fun v M => some (v, M)) none (q + 1) 0 (nI s) M = _
      unfold T_X10_step_0
      simp (disch := omega) only [↓reduceIte, ↓bnd2_of (show cal (q + 1) (fun zz => f_X10_noSlot zz (nI s) M) = _ from e), ↓gd_pos hO, ↓bnd_of (r_0_5 hW), ↓gd_pos hA, nI_z, ↓bnd_of hS, ↓gd_pos hOs, hz]
    · have hne := sl_ne h0 hs ht hTs
      have hR := (hSl s hs).2 t hTs
      have h37 : TOb 37 := by unfold TOb; omega
      have hTs' : TOb (25 + 3 * s) := by unfold TOb; omega
      obtain ⟨r1, r2⟩ := c_reduce hW hTs' h37 (by omega) ht hR hTb hH hw k
      rw [show k + 4 = q by omega] at r1 r2
      refine ⟨fun hf => ?_, fun kd t' hst => ?_⟩
      · have y1 := r1 hf
        show T_X10_step_0 (fun v M => some (v, M)) none (q + 1) 0 (nI s) M = _
        unfold T_X10_step_0
        simp (disch := omega) only [↓reduceIte, ↓bnd2_of (show cal (q + 1) (fun zz => f_X10_noSlot zz (nI s) M) = _ from e), ↓gd_pos hO, ↓bnd_of (r_0_5 hW), ↓gd_pos hA, nI_z, ↓bnd_of hS, ↓gd_pos hOs, hne, ↓bnd_of (r_0_8 hW), ↓bnd_of (r_0_6 hW), ↓gd_pos (fO_53 hW), ↓bnd2_of (show cal (q + 1) (fun zz => f_X7_reduce zz 53 (25 + 3 * s) 37 M) = _ from y1), show ((0 : Int32) ≤ 0) = True from eq_true (by decide)]
      · obtain ⟨M1, F1, rf1, res⟩ := r2 kd t' hst
        have hW1 := F1.Wd hW
        have C1 : ClS M1 c H gf T := h0.wq F1 (fun a k q => by unfold SRd SO SAg at q; omega) rf1
        have hk7 : 0 < kd ∧ kd ≤ 7 := by
          obtain ⟨j, s0, e0, Gs, y0, s1, K, x1, z1, z2, z3, -⟩ := hst
          have := rdk_le (opl (rws t) j) (opl (rws t) (j + 1))
          unfold rdl at z2
          omega
        refine ⟨fun hb => ?_, fun hf => ?_⟩
        · rcases res with ⟨g1, -⟩ | ⟨g1, y1⟩
          · omega
          · refine ⟨M1, ?_, F1.mono (fun a k q => by unfold SRd at q; unfold SCs; exact q), C1⟩
            show T_X10_step_0 (fun v M => some (v, M)) none (q + 1) 0 (nI s) M = _
            unfold T_X10_step_0
            simp (disch := omega) only [↓reduceIte, ↓bnd2_of (show cal (q + 1) (fun zz => f_X10_noSlot zz (nI s) M) = _ from e), ↓gd_pos hO, ↓bnd_of (r_0_5 hW), ↓gd_pos hA, nI_z, ↓bnd_of hS, ↓gd_pos hOs, hne, ↓bnd_of (r_0_8 hW), ↓bnd_of (r_0_6 hW), ↓gd_pos (fO_53 hW), ↓bnd2_of (show cal (q + 1) (fun zz => f_X7_reduce zz 53 (25 + 3 * s) 37 M) = _ from y1), show ((-4 : Int32) ≤ 0) = True from eq_true (by decide)]
        · rcases res with ⟨g1, y1, R1, g3⟩ | ⟨g1, -⟩
          · obtain ⟨M2, y2, F2, R2, -⟩ := c_takeOver hW1 hTs' h37 (by omega) R1 (k + 3)
            rw [show k + 3 + 1 = q by omega] at y2
            refine ⟨M2, ?_, (F1.mono (fun a k q => Or.inl (by unfold SRd at q; unfold SCs; exact q))).trans (F2.mono (fun a k q => Or.inr q)).q, C1.st hs F2 R2⟩
            show T_X10_step_0 (fun v M => some (v, M)) none (q + 1) 0 (nI s) M = _
            unfold T_X10_step_0
            have hk0 : (nI kd ≤ (0 : Int32)) = False := eq_false (fun z => by have := (nI_leI (b := 0) (by omega) (by omega)).mp z; omega)
            simp (disch := omega) only [↓reduceIte, ↓bnd2_of (show cal (q + 1) (fun zz => f_X10_noSlot zz (nI s) M) = _ from e), ↓gd_pos hO, ↓bnd_of (r_0_5 hW), ↓gd_pos hA, nI_z, ↓bnd_of hS, ↓gd_pos hOs, hne, ↓bnd_of (r_0_8 hW), ↓bnd_of (r_0_6 hW), ↓gd_pos (fO_53 hW), ↓bnd2_of (show cal (q + 1) (fun zz => f_X7_reduce zz 53 (25 + 3 * s) 37 M) = _ from y1), hk0, ↓gd_pos (fO_0 hW1), ↓bnd_of (r_0_5 hW1), ↓gd_pos (fA_24 hW1 hs), ↓bnd_of (slot_at hW1 hs).1, ↓bnd_of (r_0_6 hW1), ↓gd_pos (fO_s hW1 hs), ↓bnd2_of (show cal (q + 1) (fun zz => f_X9_takeOver zz (25 + 3 * s) 37 M1) = _ from y2)]
          · omega
end STC
section STR
variable {M M1 : Mem} {c c1 : Nat} {H : List (Nat × Fm)} {gf : Fm} {T : Nat → Option Tm} {CI : Fm → Prop} {K : Nat}
theorem rx_isEmptyR (hW : Wd M) {s : Nat} (hs : s < 4) (k : Nat) : (M.2.2.1 104 s = 0 → f_X11_isEmpty k 89 (nI s) M = some (1, M)) ∧ (¬ M.2.2.1 104 s = 0 → f_X11_isEmpty k 89 (nI s) M = some (0, M)) := by
  have hA4 := fA_R hW (a := 104) (by omega) (s_104 hW) hs (by omega)
  constructor
  · intro hz
    show T_X11_isEmpty_0 (fun v M => some (v, M)) none k 89 (nI s) M = _
    unfold T_X11_isEmpty_0
    simp (disch := omega) only [↓gd_pos (fO_R hW), ↓bnd_of (r_89_19 hW), ↓gd_pos hA4, nI_z, hz, ↓reduceIte]
  · intro hz
    show T_X11_isEmpty_0 (fun v M => some (v, M)) none k 89 (nI s) M = _
    unfold T_X11_isEmpty_0
    simp (disch := omega) only [↓gd_pos (fO_R hW), ↓bnd_of (r_89_19 hW), ↓gd_pos hA4, nI_z, hz, ↓reduceIte]
theorem rx_filled (h : RfS M c H gf T CI K) {s : Nat} (hs : s < 4) {t : Tm} (ht : isT t) (h2 : sz t ≤ 200) (hT : T s = some t) (k : Nat) : f_X11_isEmpty k 89 (nI s) M = some (0, M) := by
  have := ((h.2.2.2.2.1 s hs).2 t hT).1
  have hp := sz_pos t ht
  exact (rx_isEmptyR h.1 hs k).2 (fun q => by rw [this] at q; have := (nI_eq (b := 0) (by omega) (by omega)).mp q; omega)
theorem rx_void (h : RfS M c H gf T CI K) {s : Nat} (hs : s < 4) (hT : T s = none) (k : Nat) : f_X11_isEmpty k 89 (nI s) M = some (1, M) := (rx_isEmptyR h.1 hs k).1 ((h.2.2.2.2.1 s hs).1 hT)
/-- a slot is filled -/
theorem RfS.st (h : RfS M c H gf T CI K) (hu : ∀ r u, r < 4 → T r = some u → sz u ≤ 200) {s : Nat} (hs : s < 4) {t : Tm} (hR : WrkR M c (rws t)) (h2 : sz t ≤ 200) (k : Nat) : ∃ M1, f_X11_stores k 89 (nI s) M = some ((), M1) ∧ Fr (SSt s (sz t)) M M1 ∧ RfS M1 c H gf (ups T s (some t)) CI K ∧ WrkR M1 c (rws t) := by
  obtain ⟨hW, hT, hH, ⟨v, v1, v2, v3⟩, hSl, hF⟩ := h
  obtain ⟨M1, y1, F1, g1, g2⟩ := rx_stores hW hs h2 hR.1 k
  obtain ⟨T1, d1⟩ := tabR_mv hT F1 (by unfold SSt; omega) (fun a k q => by unfold SSt at q; omega)
  refine ⟨M1, y1, F1, ⟨F1.Wd hW, T1, hH.mv F1 (by unfold SSt; omega) (fun a k q => by unfold SSt at q; omega) (fun i _ => d1 i) (Nat.le_refl _), ⟨v, v1, (F1.int (by unfold SSt; omega)).trans v2, (d1 v).trans v3⟩, fun r hr => ?_, hF.same (fun i _ => d1 i)⟩, hR.mv (F1.int (by unfold SSt; omega)) (F1.ints (by unfold SSt; omega)) (F1.ints (by unfold SSt; omega)) (fun i _ => d1 i) (Nat.le_refl _)⟩
  by_cases e : r = s
  · subst e
    rw [ups_at]
    refine ⟨fun q => (by cases q), fun u q => ?_⟩
    cases q
    refine ⟨g1, hR.2.2.1, fun i nd hi => ?_⟩
    obtain ⟨a1, a2⟩ := hR.2.2.2 i nd hi
    rw [Nat.zero_add] at a1 a2
    have hlt := (opl_of hi).2.2
    rw [rws_len] at hlt
    rw [(g2 i hlt).1, (g2 i hlt).2]
    exact ⟨a1, a2.mv (fun j _ => d1 j) (Nat.le_refl _)⟩
  · rw [ups_ne _ _ e]
    obtain ⟨b1, b2⟩ := hSl r hr
    refine ⟨fun q => (F1.int (by unfold SSt; omega)).trans (b1 q), fun u q => ?_⟩
    obtain ⟨a1, a2⟩ := b2 u q
    have hu2 := hu r u hr q
    exact ⟨(F1.int (by unfold SSt; omega)).trans a1, a2.mv (fun i hi => by rw [rws_len] at hi; exact F1.int (by unfold SSt; omega)) (fun i hi => by rw [rws_len] at hi; exact F1.int (by unfold SSt; omega)) (fun i _ => d1 i) (Nat.le_refl _)⟩
def SSu (a k : Nat) : Prop := SSq a k ∨ (a = 89 ∧ k = 0) ∨ STr a k ∨ (102 ≤ a ∧ a ≤ 104)
set_option maxHeartbeats 1000000 in
theorem rx_step (h : RfS M c H gf T CI K) (hA : OkA CI H gf T) (hK : 8191 ≤ K) (hK2 : K ≤ 11000) (h8 : M.2.2.1 89 8 = 0) (k : Nat) (x : Int32) :
    ((∀ s, s < 4 → x ≠ nI s) → f_X11_step (k + 407) 89 x M = some (-2, wI M 89 0 0)) ∧ ∀ s, s < 4 → x = nI s →
    (T s = none → f_X11_step (k + 407) 89 x M = some (-5, wI M 89 0 0)) ∧ ∀ t y, T s = some t → Wc (OkF CI) H.length (hF H) t 0 gN 0 y →
    (frx (rws t) (sz t) 0 = none → ∃ M1 c1, f_X11_step (k + 407) 89 x M = some (0, M1) ∧ Fr SSu M M1 ∧ RfS M1 c1 H gf T CI 8191 ∧ WkG M1 c1 CI 0) ∧ ∀ kd t', StT H.length (hF H) t kd t' →
    (200 < sz t' → ∃ M1 c1, f_X11_step (k + 407) 89 x M = some (-4, M1) ∧ Fr SSu M M1 ∧ RfS M1 c1 H gf T CI 8191 ∧ WkG M1 c1 CI 0) ∧
    (sz t' ≤ 200 → ∃ M1 c1, f_X11_step (k + 407) 89 x M = some (nI kd, M1) ∧ Fr SSu M M1 ∧ RfS M1 c1 H gf (ups T s (some t')) CI 8191 ∧ WkG M1 c1 CI 0) := by
  have hW := h.1
  have F0 : Fr SSu M (wI M 89 0 0) := Fr.refl.wI (by unfold SSu; omega) _
  have F0' : Fr (fun a k => a = 89 ∧ k = 0) M (wI M 89 0 0) := Fr.refl.wI ⟨rfl, rfl⟩ _
  have h0 : RfS (wI M 89 0 0) c H gf T CI K := h.w F0' (fun a k q => by omega)
  have hW0 := h0.1
  obtain ⟨q, hq⟩ : ∃ q, q = k + 406 := ⟨_, rfl⟩
  obtain ⟨nA, nB⟩ := rx_isSlot (M := wI M 89 0 0) (k + 405) x
  rw [show k + 405 + 1 = q by omega] at nA nB
  rw [show k + 407 = q + 1 by omega]
  have hO := fO_R hW
  have hO0 := fO_R hW0
  have une : ((1 : Int32) = 0) = False := eq_false (by decide)
  have h80 : (wI M 89 0 0).2.2.1 89 8 = 0 := by simp [up2_if]; exact h8
  refine ⟨fun hx => ?_, fun s hs hx => ?_⟩
  · have e := nB hx
    show T_X11_step_0 (fun v M => some (v, M)) none (q + 1) 89 x M = _
    unfold T_X11_step_0
    simp only [↓reduceIte, ↓gd_pos hO, ↓bnd2_of (show cal (q + 1) (fun zz => f_X11_isSlot zz x (wI M 89 0 0)) = _ from e)]
  · have e := nA s hs hx
    subst hx
    refine ⟨fun hN => ?_, fun t y hTs hw => ?_⟩
    · have e2 := rx_void h0 hs hN q
      show T_X11_step_0 (fun v M => some (v, M)) none (q + 1) 89 (nI s) M = _
      unfold T_X11_step_0
      simp only [↓reduceIte, ↓gd_pos hO, ↓gd_pos hO0, ↓bnd2_of (show cal (q + 1) (fun zz => f_X11_isSlot zz (nI s) (wI M 89 0 0)) = _ from e), une, ↓bnd2_of (show cal (q + 1) (fun zz => f_X11_isEmpty zz 89 (nI s) (wI M 89 0 0)) = _ from e2)]
    · obtain ⟨ht, h2, hlb⟩ := hA.2.2.2 s t hs hTs
      have e2 := rx_filled h0 hs ht h2 hTs q
      obtain ⟨c1, M1, y1, F1, R1, W1, f1⟩ := rx_takes h0 hA hK (Or.inl h80) hs hTs (k + 202)
      rw [show k + 202 + 204 = q by omega] at y1
      have R1' : RfS M1 c1 H gf T CI 8191 := ⟨R1.1, R1.2.1, R1.2.2.1, R1.2.2.2.1, R1.2.2.2.2.1, (f1 h80).1⟩
      have h81 : M1.2.2.1 89 8 = 0 := (F1.int (by unfold STk STd STr; omega)).trans h80
      have F01 : Fr SSu M M1 := F0.trans (F1.mono (fun a k q => by unfold STk at q; unfold SSu SSq; rcases q with q | q; exact Or.inl (Or.inr q); exact Or.inr (Or.inr (Or.inl q))))
      obtain ⟨p1, p2⟩ := rx_steps R1' hA (Nat.le_refl _) (by omega) (Or.inl h81) ht h2 W1 hw k
      rw [show k + 406 = q by omega] at p1 p2
      have hW1 := R1.1
      refine ⟨fun hf => ?_, fun kd t' hst => ⟨fun hb => ?_, fun hf => ?_⟩⟩
      · refine ⟨M1, c1, ?_, F01, R1', WkG_of W1 ⟨ht, h2, hlb⟩⟩
        have y2 := p1 hf
        show T_X11_step_0 (fun v M => some (v, M)) none (q + 1) 89 (nI s) M = _
        unfold T_X11_step_0
        simp only [↓reduceIte, ↓gd_pos hO, ↓gd_pos hO0, ↓bnd2_of (show cal (q + 1) (fun zz => f_X11_isSlot zz (nI s) (wI M 89 0 0)) = _ from e), une, ↓bnd2_of (show cal (q + 1) (fun zz => f_X11_isEmpty zz 89 (nI s) (wI M 89 0 0)) = _ from e2), ↓bnd2_of (show cal (q + 1) (fun zz => f_X11_takes zz 89 (nI s) (wI M 89 0 0)) = _ from y1), ↓gd_pos (fO_R hW1), ↓bnd2_of (show cal (q + 1) (fun zz => f_X11_steps zz 89 M1) = _ from y2), show ((0 : Int32) ≤ 0) = True from eq_true (by decide)]
      · obtain ⟨M2, c2, y2, F2, R2, W2⟩ := (p2 kd t' hst).1 hb
        refine ⟨M2, c2, ?_, F01.trans (F2.mono (fun a k q => Or.inl q)), R2, WkG_of W2 ⟨ht, h2, hlb⟩⟩
        show T_X11_step_0 (fun v M => some (v, M)) none (q + 1) 89 (nI s) M = _
        unfold T_X11_step_0
        simp only [↓reduceIte, ↓gd_pos hO, ↓gd_pos hO0, ↓bnd2_of (show cal (q + 1) (fun zz => f_X11_isSlot zz (nI s) (wI M 89 0 0)) = _ from e), une, ↓bnd2_of (show cal (q + 1) (fun zz => f_X11_isEmpty zz 89 (nI s) (wI M 89 0 0)) = _ from e2), ↓bnd2_of (show cal (q + 1) (fun zz => f_X11_takes zz 89 (nI s) (wI M 89 0 0)) = _ from y1), ↓gd_pos (fO_R hW1), ↓bnd2_of (show cal (q + 1) (fun zz => f_X11_steps zz 89 M1) = _ from y2), show ((-4 : Int32) ≤ 0) = True from eq_true (by decide)]
      · obtain ⟨M2, c2, y2, F2, R2, W2⟩ := (p2 kd t' hst).2 hf
        obtain ⟨M3, y3, F3, R3, W3⟩ := R2.st (fun r u hr hu => (hA.2.2.2 r u hr hu).2.1) hs W2 hf q
        have hk7 : 0 < kd ∧ kd ≤ 7 := by
          obtain ⟨j, s0, e0, Gs, y0, s1, K, x1, z1, z2, z3, -⟩ := hst
          have := rdk_le (opl (rws t) j) (opl (rws t) (j + 1))
          unfold rdl at z2
          omega
        refine ⟨M3, c2, ?_, (F01.trans (F2.mono (fun a k q => Or.inl q))).trans (F3.mono (fun a k q => by unfold SSt at q; unfold SSu; omega)), R3, WkG_of W3 ⟨hst.tm, hf, lab_ok (OkF.pt hA.1) t' hst.tm (hst.wt ht hw)⟩⟩
        show T_X11_step_0 (fun v M => some (v, M)) none (q + 1) 89 (nI s) M = _
        unfold T_X11_step_0
        have hk0 : (nI kd ≤ (0 : Int32)) = False := eq_false (fun z => by have := (nI_leI (b := 0) (by omega) (by omega)).mp z; omega)
        simp only [↓reduceIte, ↓gd_pos hO, ↓gd_pos hO0, ↓bnd2_of (show cal (q + 1) (fun zz => f_X11_isSlot zz (nI s) (wI M 89 0 0)) = _ from e), une, ↓bnd2_of (show cal (q + 1) (fun zz => f_X11_isEmpty zz 89 (nI s) (wI M 89 0 0)) = _ from e2), ↓bnd2_of (show cal (q + 1) (fun zz => f_X11_takes zz 89 (nI s) (wI M 89 0 0)) = _ from y1), ↓gd_pos (fO_R hW1), ↓bnd2_of (show cal (q + 1) (fun zz => f_X11_steps zz 89 M1) = _ from y2), hk0, ↓gd_pos (fO_R R2.1), ↓bnd2_of (show cal (q + 1) (fun zz => f_X11_stores zz 89 (nI s) M2) = _ from y3)]
end STR
