/-! STEPS till it is normal: the reference; the calls -/
section NRR
variable {c : Nat} {H : List (Nat × Fm)} {gf : Fm} {T : Nat → Option Tm} {CI : Fm → Prop} {K : Nat}
def SNz (a k : Nat) : Prop := SSq a k ∨ (a = 89 ∧ k = 46) ∨ a = 116
noncomputable abbrev lpZ (m : Nat) (M : Mem) : Option (Int32 × Mem) := lp (st_X11_normalize (m + 407)) (5, [.ref 89], M)
set_option maxHeartbeats 1000000 in
theorem nz_loop (hA : OkA CI H gf T) (hK : 8191 ≤ K) (hK2 : K ≤ 11000) (m : Nat) : ∀ z n, n + z = 60 → ∀ {M : Mem} {c : Nat} {t : Tm} {x : Fm} {ks : List Nat} {o : Option (List Nat × Tm)}, RfS M c H gf T CI K → (M.2.2.1 89 8 = 0 ∨ M.2.2.1 89 8 = 1) → isT t → sz t ≤ 200 → WrkR M c (rws t) → Wc (OkF CI) H.length (hF H) t 0 gN 0 x → ks.length = n → KsC M 116 ks → M.2.2.1 89 46 = nI n → NrmR H.length (hF H) z t o → (o = none → ∃ M1 c1 u, lpZ m M = some (-4, M1) ∧ Fr SNz M M1 ∧ RfS M1 c1 H gf T CI K ∧ WrkR M1 c1 (rws u) ∧ OkT CI u ∧ Gro M c M1 c1) ∧ ∀ r, o = some r → ∃ M1 c1, lpZ m M = some (nI (n + r.1.length), M1) ∧ Fr SNz M M1 ∧ RfS M1 c1 H gf T CI K ∧ WrkR M1 c1 (rws r.2) ∧ KsC M1 116 (ks ++ r.1) ∧ Gro M c M1 c1 := by
  obtain ⟨q, hq⟩ : ∃ q, q = m + 406 := ⟨_, rfl⟩
  have ok : ∀ {t : Tm} {x : Fm}, isT t → sz t ≤ 200 → Wc (OkF CI) H.length (hF H) t 0 gN 0 x → OkT CI t := fun h1 h2 h3 => ⟨h1, h2, lab_ok (OkF.pt hA.1) _ h1 h3⟩
  intro z
  induction z with
  | zero =>
    intro n hn M c t x ks o hS h8 ht h2 hR hw hks hKs h46 hnr
    have hW := hS.1
    have y0 := rx_firstRedex hW ht hR (m + 404)
    rw [show m + 404 + 2 = q by omega] at y0
    rcases hnr with ⟨hf, rfl⟩ | ⟨⟨j, hf⟩, rfl⟩
    · refine ⟨fun q => (by cases q), fun r e => ?_⟩
      cases e
      rw [hf] at y0
      have y0' : f_X11_firstRedex q 89 M = some (-1, M) := y0
      refine ⟨M, c, ?_, Fr.refl, hS, hR, by simpa using hKs, fun _ => ⟨Nat.le_refl _, fun _ _ => rfl⟩⟩
      unfold lpZ
      rw [show m + 407 = q + 1 by omega]
      refine (ge_X11_normalize_5 (q + 1) 89 M).trans ?_
      unfold T_X11_normalize_5
      simp only [↓reduceIte, ↓gd_pos (fO_R hW), ↓bnd2_of (show cal (q + 1) (fun zz => f_X11_firstRedex zz 89 M) = _ from y0'), h46]
      rfl
    · refine ⟨fun _ => ⟨M, c, t, ?_, Fr.refl, hS, hR, ok ht h2 hw, fun _ => ⟨Nat.le_refl _, fun _ _ => rfl⟩⟩, fun r e => (by cases e)⟩
      rw [hf] at y0
      have y0' : f_X11_firstRedex q 89 M = some (nI j, M) := y0
      have hj : j < 2147483648 := by
        rcases frx_is (rws t) (sz t) 0 with ⟨q1, -⟩ | ⟨j', h1, h2', h3, h4, -⟩
        · rw [q1] at hf; cases hf
        · rw [h4] at hf
          have : j' = j := Option.some.inj hf
          omega
      unfold lpZ
      rw [show m + 407 = q + 1 by omega]
      refine (ge_X11_normalize_5 (q + 1) 89 M).trans ?_
      unfold T_X11_normalize_5
      have h60 : (nI n = (60 : Int32)) = True := eq_true (by rw [show n = 60 by omega]; rfl)
      simp only [↓reduceIte, ↓gd_pos (fO_R hW), ↓bnd2_of (show cal (q + 1) (fun zz => f_X11_firstRedex zz 89 M) = _ from y0'), nI_ne_m1 hj, h46, h60]
  | succ z ih =>
    intro n hn M c t x ks o hS h8 ht h2 hR hw hks hKs h46 hnr
    have hW := hS.1
    have y0 := rx_firstRedex hW ht hR (m + 404)
    rw [show m + 404 + 2 = q by omega] at y0
    rcases hnr with ⟨hf, rfl⟩ | ⟨k, u, hst, hor⟩
    · refine ⟨fun q => (by cases q), fun r e => ?_⟩
      cases e
      rw [hf] at y0
      have y0' : f_X11_firstRedex q 89 M = some (-1, M) := y0
      refine ⟨M, c, ?_, Fr.refl, hS, hR, by simpa using hKs, fun _ => ⟨Nat.le_refl _, fun _ _ => rfl⟩⟩
      unfold lpZ
      rw [show m + 407 = q + 1 by omega]
      refine (ge_X11_normalize_5 (q + 1) 89 M).trans ?_
      unfold T_X11_normalize_5
      simp only [↓reduceIte, ↓gd_pos (fO_R hW), ↓bnd2_of (show cal (q + 1) (fun zz => f_X11_firstRedex zz 89 M) = _ from y0'), h46]
      rfl
    · obtain ⟨⟨hk1, hk7⟩, j, hf⟩ := hst.kd
      rw [hf] at y0
      have y0' : f_X11_firstRedex q 89 M = some (nI j, M) := y0
      have hj : j < 2147483648 := by
        rcases frx_is (rws t) (sz t) 0 with ⟨q1, -⟩ | ⟨j', h1, h2', h3, h4, -⟩
        · rw [q1] at hf; cases hf
        · rw [h4] at hf
          have : j' = j := Option.some.inj hf
          omega
      have h60 : (nI n = (60 : Int32)) = False := eq_false (fun z => by have := (nI_eq (b := 60) (by omega) (by omega)).mp z; omega)
      obtain ⟨pB, pG⟩ := (rx_stepsG hS hA hK hK2 h8 ht h2 hR hw m).2 k u hst
      rw [show m + 406 = q by omega] at pB pG
      rcases hor with ⟨hb, rfl⟩ | ⟨hz, o', ho', rfl⟩
      · refine ⟨fun _ => ?_, fun r e => (by cases e)⟩
        obtain ⟨M1, c1, y1, F1, S1, R1, gr⟩ := pB hb
        refine ⟨M1, c1, t, ?_, F1.mono (fun a k q => Or.inl q), S1, R1, ok ht h2 hw, gr⟩
        unfold lpZ
        rw [show m + 407 = q + 1 by omega]
        refine (ge_X11_normalize_5 (q + 1) 89 M).trans ?_
        unfold T_X11_normalize_5
        simp only [↓reduceIte, ↓gd_pos (fO_R hW), ↓bnd2_of (show cal (q + 1) (fun zz => f_X11_firstRedex zz 89 M) = _ from y0'), nI_ne_m1 hj, h46, h60, ↓bnd2_of (show cal (q + 1) (fun zz => f_X11_steps zz 89 M) = _ from y1), show ((0 : Int32) ≤ -4) = False from eq_false (by decide)]
      · obtain ⟨M1, c1, y1, F1, S1, R1, gr1⟩ := pG hz
        have hW1 := S1.1
        obtain ⟨M2, hM2⟩ : ∃ M2, M2 = wI (wI M1 116 n (nI k)) 89 46 (nI (n + 1)) := ⟨_, rfl⟩
        have F2 : Fr (fun a k => a = 116 ∨ (a = 89 ∧ k = 46)) M1 M2 := by
          rw [hM2]
          exact (Fr.refl.wI (Or.inl rfl) _).wI (Or.inr ⟨rfl, rfl⟩) _
        have S2 := S1.w F2 (fun a k q => by omega)
        have F12 : Fr SNz M M2 := (F1.mono (fun a k q => Or.inl q)).trans (F2.mono (fun a k q => by rcases q with q | q; exact Or.inr (Or.inr q); exact Or.inr (Or.inl q)))
        obtain ⟨-, d2⟩ := tabR_mv S1.2.1 F2 (by omega) (fun a k q => by omega)
        have R2 : WrkR M2 c1 (rws u) := R1.mv (F2.int (by omega)) (F2.ints (by omega)) (F2.ints (by omega)) (fun i _ => d2 i) (Nat.le_refl _)
        have m46 : M1.2.2.1 89 46 = nI n := (F1.int (by unfold SSq SSp SR STd; omega)).trans h46
        have K2 : KsC M2 116 (ks ++ [k]) := hKs.push (fun i hi => by
          rw [hM2]
          simp only [up2_if, show i ≠ n by omega, and_false, if_false, Nat.reduceEqDiff, false_and]
          exact F1.int (by unfold SSq SSp SR STd; omega)) (by
          rw [hM2, hks]
          simp [up2_if])
        have e1 : lpZ m M = lpZ m M2 := by
          unfold lpZ
          rw [show m + 407 = q + 1 by omega]
          refine (ge_X11_normalize_5 (q + 1) 89 M).trans ?_
          unfold T_X11_normalize_5
          have hk0 : ((0 : Int32) ≤ nI k) = True := eq_true (by rw [show (0 : Int32) = nI 0 from rfl, nI_le_ (by omega) (by omega)]; omega)
          have hAr : fA M1 116 1 (nI n) := fA_R hW1 (a := 116) (by omega) (s_116 hW1) (show n < 60 by omega) (by omega)
          simp only [↓reduceIte, ↓gd_pos (fO_R hW), ↓bnd2_of (show cal (q + 1) (fun zz => f_X11_firstRedex zz 89 M) = _ from y0'), nI_ne_m1 hj, h46, h60, ↓bnd2_of (show cal (q + 1) (fun zz => f_X11_steps zz 89 M) = _ from y1), hk0, ↓gd_pos (fO_R hW1), ↓bnd_of (r_89_44 hW1), m46, ↓gd_pos hAr, nI_z (show n < 2147483648 by omega), up2_if, Nat.reduceEqDiff, false_and, if_false, nI_1, ← hM2]
        obtain ⟨i1, i2⟩ := ih (n + 1) (by omega) S2 (by rw [F12.int (by unfold SNz SSq SSp SR STd; omega)]; exact h8) hst.tm hz R2 (hst.wt ht hw) (by simp; omega) K2 (by rw [hM2]; simp [up2_if]) ho'
        have gr2 : Gro M c M2 c1 := gr1.trans (F1.int (by unfold SSq SSp SR STd; omega)) (fun _ => ⟨Nat.le_refl _, fun i _ => d2 i⟩)
        have e82 : M2.2.2.1 89 8 = M.2.2.1 89 8 := F12.int (by unfold SNz SSq SSp SR STd; omega)
        refine ⟨fun e => ?_, fun r e => ?_⟩
        · cases o' with
          | some r' => cases e
          | none =>
            obtain ⟨M3, c3, v, y3, F3, h3, h4, h5, gr3⟩ := i1 rfl
            exact ⟨M3, c3, v, e1.trans y3, F12.trans F3, h3, h4, h5, gr2.trans e82 gr3⟩
        · cases o' with
          | none => cases e
          | some r' =>
            have e : some (k :: r'.1, r'.2) = some r := e
            cases e
            obtain ⟨M3, c3, y3, F3, h3, R3, K3, gr3⟩ := i2 r' rfl
            refine ⟨M3, c3, ?_, F12.trans F3, h3, R3, by simpa using K3, gr2.trans e82 gr3⟩
            rw [e1, y3]
            show some (nI (n + 1 + r'.1.length), M3) = some (nI (n + (r'.1.length + 1)), M3)
            rw [show n + 1 + r'.1.length = n + (r'.1.length + 1) by omega]
theorem rx_normalizeG (hA : OkA CI H gf T) (hK : 8191 ≤ K) (hK2 : K ≤ 11000) (m : Nat) {M : Mem} {c : Nat} {t : Tm} {x : Fm} {o : Option (List Nat × Tm)} (hS : RfS M c H gf T CI K) (h8 : M.2.2.1 89 8 = 0 ∨ M.2.2.1 89 8 = 1) (ht : isT t) (h2 : sz t ≤ 200) (hR : WrkR M c (rws t)) (hw : Wc (OkF CI) H.length (hF H) t 0 gN 0 x) (hnr : NrmR H.length (hF H) 60 t o) : (o = none → ∃ M1 c1 u, f_X11_normalize (m + 407) 89 M = some (-4, M1) ∧ Fr SNz M M1 ∧ RfS M1 c1 H gf T CI K ∧ WrkR M1 c1 (rws u) ∧ OkT CI u ∧ Gro M c M1 c1) ∧ ∀ r, o = some r → ∃ M1 c1, f_X11_normalize (m + 407) 89 M = some (nI r.1.length, M1) ∧ Fr SNz M M1 ∧ RfS M1 c1 H gf T CI K ∧ WrkR M1 c1 (rws r.2) ∧ KsC M1 116 r.1 ∧ Gro M c M1 c1 := by
  have hW := hS.1
  have F0 : Fr (fun a k => a = 89 ∧ k = 46) M (wI M 89 46 0) := Fr.refl.wI ⟨rfl, rfl⟩ _
  have S0 := hS.w F0 (fun a k q => by omega)
  have R0 : WrkR (wI M 89 46 0) c (rws t) := hR
  have e0 : f_X11_normalize (m + 407) 89 M = lpZ m (wI M 89 46 0) := by
    unfold lpZ
    refine (ge_X11_normalize_0 (m + 407) 89 M).trans ?_
    unfold T_X11_normalize_0
    simp only [↓gd_pos (fO_R hW)]
  have F0' : Fr SNz M (wI M 89 46 0) := F0.mono (fun a k q => by unfold SNz; omega)
  obtain ⟨i1, i2⟩ := nz_loop hA hK hK2 m 60 0 (by omega) S0 (by simp [up2_if]; exact h8) ht h2 R0 hw (ks := []) rfl (fun i x q => by simp at q) (by simp [up2_if]; rfl) hnr
  refine ⟨fun e => ?_, fun r e => ?_⟩
  · obtain ⟨M2, c2, u, y2, F2, h2', h3', h4', gr⟩ := i1 e
    exact ⟨M2, c2, u, e0.trans y2, F0'.trans F2, h2', h3', h4', fun z => gr (by simp [up2_if]; exact z)⟩
  · obtain ⟨M2, c2, y2, F2, h2', R2, K2, gr⟩ := i2 r e
    refine ⟨M2, c2, ?_, F0'.trans F2, h2', R2, by simpa using K2, fun z => gr (by simp [up2_if]; exact z)⟩
    rw [e0, y2, Nat.zero_add]
theorem rx_normalize (hA : OkA CI H gf T) (hK : 8191 ≤ K) (hK2 : K ≤ 11000) (m : Nat) {M : Mem} {c : Nat} {t : Tm} {x : Fm} {o : Option (List Nat × Tm)} (hS : RfS M c H gf T CI K) (h8 : M.2.2.1 89 8 = 0 ∨ M.2.2.1 89 8 = 1) (ht : isT t) (h2 : sz t ≤ 200) (hR : WrkR M c (rws t)) (hw : Wc (OkF CI) H.length (hF H) t 0 gN 0 x) (hnr : NrmR H.length (hF H) 60 t o) : (o = none → ∃ M1 c1 u, f_X11_normalize (m + 407) 89 M = some (-4, M1) ∧ Fr SNz M M1 ∧ RfS M1 c1 H gf T CI K ∧ WrkR M1 c1 (rws u) ∧ OkT CI u) ∧ ∀ r, o = some r → ∃ M1 c1, f_X11_normalize (m + 407) 89 M = some (nI r.1.length, M1) ∧ Fr SNz M M1 ∧ RfS M1 c1 H gf T CI K ∧ WrkR M1 c1 (rws r.2) ∧ KsC M1 116 r.1 := by
  obtain ⟨i1, i2⟩ := rx_normalizeG hA hK hK2 m hS h8 ht h2 hR hw hnr
  refine ⟨fun e => ?_, fun r e => ?_⟩
  · obtain ⟨M2, c2, u, a1, a2, a3, a4, a5, -⟩ := i1 e
    exact ⟨M2, c2, u, a1, a2, a3, a4, a5⟩
  · obtain ⟨M2, c2, a1, a2, a3, a4, a5, -⟩ := i2 r e
    exact ⟨M2, c2, a1, a2, a3, a4, a5⟩
/-- trace's rows -/
def TrR (M : Mem) (ks : List Nat) : Prop := M.2.2.1 89 47 = nI ks.length ∧ ks.length ≤ 60 ∧ KsC M 117 ks
def TrC (M : Mem) (ks : List Nat) : Prop := M.2.2.1 0 15 = nI ks.length ∧ ks.length ≤ 60 ∧ KsC M 88 ks
theorem nt_loop {M : Mem} (hW : Wd M) {n : Nat} (hn : n ≤ 60) (k : Nat) : ∀ z j, j + z = n → ∀ M1, Fr (fun a _ => a = 117) M M1 → (∀ u, u < j → M1.2.2.1 117 u = M.2.2.1 116 u) → ∃ M2, lp (st_X11_normal k) (54, [.ref 89, .int (nI n), .int (nI j)], M1) = some (nI n, M2) ∧ Fr (fun a _ => a = 117) M M2 ∧ ∀ u, u < n → M2.2.2.1 117 u = M.2.2.1 116 u := by
  intro z
  induction z with
  | zero =>
    intro j hj M1 hF hu
    have e : j = n := by omega
    subst e
    refine ⟨M1, ?_, hF, hu⟩
    refine (ge_X11_normal_54 k 89 (nI j) (nI j) M1).trans ?_
    unfold T_X11_normal_54
    simp (disch := omega) only [nI_le_, Nat.le_refl, ↓reduceIte]
  | succ z ih =>
    intro j hj M1 hF hu
    have hW1 := hF.Wd hW
    have hA6 := fA_R hW1 (a := 116) (by omega) (s_116 hW1) (show j < 60 by omega) (by omega)
    have hA7 := fA_R hW1 (a := 117) (by omega) (s_117 hW1) (show j < 60 by omega) (by omega)
    have i6 : M1.2.2.1 116 j = M.2.2.1 116 j := hF.int (by omega)
    obtain ⟨M2, e2, F2, u2⟩ := ih (j + 1) (by omega) (wI M1 117 j (M.2.2.1 116 j)) (hF.wI rfl _) (fun u hu2 => by
      by_cases q : u = j
      · subst q; simp [up2_if]
      · simp [up2_if, q, hu u (by omega)])
    refine ⟨M2, Eq.trans ?_ e2, F2, u2⟩
    refine (ge_X11_normal_54 k 89 (nI n) (nI j) M1).trans ?_
    unfold T_X11_normal_54
    simp (disch := omega) only [nI_le_, eq_false (show ¬ n ≤ j by omega), ↓reduceIte, ↓gd_pos (fO_R hW1), ↓bnd_of (r_89_45 hW1), ↓bnd_of (r_89_44 hW1), ↓gd_pos hA6, ↓gd_pos hA7, nI_z, i6, nI_1]
def SNl (a k : Nat) : Prop := SNz a k ∨ SSu a k ∨ (a = 89 ∧ k = 47) ∨ a = 117
set_option maxHeartbeats 1000000 in
theorem rx_normal {M : Mem} {c : Nat} (h : RfS M c H gf T CI K) (hA : OkA CI H gf T) (hK : 8191 ≤ K) (hK2 : K ≤ 11000) (h8 : M.2.2.1 89 8 = 0) (k : Nat) (x : Int32) :
    ((∀ s, s < 4 → x ≠ nI s) → f_X11_normal (k + 408) 89 x M = some (-2, wI M 89 0 0)) ∧ ∀ s, s < 4 → x = nI s →
    (T s = none → f_X11_normal (k + 408) 89 x M = some (-5, wI M 89 0 0)) ∧ ∀ t y o, T s = some t → Wc (OkF CI) H.length (hF H) t 0 gN 0 y → NrmR H.length (hF H) 60 t o →
    (o = none → ∃ M1 c1, f_X11_normal (k + 408) 89 x M = some (-4, M1) ∧ Fr (fun a k => SNz a k ∨ SSu a k) M M1 ∧ RfS M1 c1 H gf T CI 8191 ∧ WkG M1 c1 CI 0) ∧
    ∀ r, o = some r → ∃ M1 c1, f_X11_normal (k + 408) 89 x M = some (nI r.1.length, M1) ∧ Fr SNl M M1 ∧ RfS M1 c1 H gf (ups T s (some r.2)) CI 8191 ∧ WkG M1 c1 CI 0 ∧ TrR M1 r.1 := by
  have hW := h.1
  have F0 : Fr SSu M (wI M 89 0 0) := Fr.refl.wI (by unfold SSu; omega) _
  have F0' : Fr (fun a k => a = 89 ∧ k = 0) M (wI M 89 0 0) := Fr.refl.wI ⟨rfl, rfl⟩ _
  have h0 : RfS (wI M 89 0 0) c H gf T CI K := h.w F0' (fun a k q => by omega)
  have hW0 := h0.1
  obtain ⟨q, hq⟩ : ∃ q, q = k + 407 := ⟨_, rfl⟩
  obtain ⟨nA, nB⟩ := rx_isSlot (M := wI M 89 0 0) (k + 406) x
  rw [show k + 406 + 1 = q by omega] at nA nB
  rw [show k + 408 = q + 1 by omega]
  have hO := fO_R hW
  have hO0 := fO_R hW0
  have une : ((1 : Int32) = 0) = False := eq_false (by decide)
  have h80 : (wI M 89 0 0).2.2.1 89 8 = 0 := by simp [up2_if]; exact h8
  refine ⟨fun hx => ?_, fun s hs hx => ?_⟩
  · have e := nB hx
    refine (ge_X11_normal_0 (q + 1) 89 x M).trans ?_
    unfold T_X11_normal_0
    simp only [↓reduceIte, ↓gd_pos hO, ↓bnd2_of (show cal (q + 1) (fun zz => f_X11_isSlot zz x (wI M 89 0 0)) = _ from e)]
  · have e := nA s hs hx
    subst hx
    refine ⟨fun hN => ?_, fun t y o hTs hw hnr => ?_⟩
    · have e2 := rx_void h0 hs hN q
      refine (ge_X11_normal_0 (q + 1) 89 (nI s) M).trans ?_
      unfold T_X11_normal_0
      simp only [↓reduceIte, ↓gd_pos hO, ↓gd_pos hO0, ↓bnd2_of (show cal (q + 1) (fun zz => f_X11_isSlot zz (nI s) (wI M 89 0 0)) = _ from e), une, ↓bnd2_of (show cal (q + 1) (fun zz => f_X11_isEmpty zz 89 (nI s) (wI M 89 0 0)) = _ from e2)]
    · obtain ⟨ht, h2, hlb⟩ := hA.2.2.2 s t hs hTs
      have e2 := rx_filled h0 hs ht h2 hTs q
      obtain ⟨c1, M1, y1, F1, R1, W1, f1⟩ := rx_takes h0 hA hK (Or.inl h80) hs hTs (k + 203)
      rw [show k + 203 + 204 = q by omega] at y1
      have R1' : RfS M1 c1 H gf T CI 8191 := ⟨R1.1, R1.2.1, R1.2.2.1, R1.2.2.2.1, R1.2.2.2.2.1, (f1 h80).1⟩
      have h81 : M1.2.2.1 89 8 = 0 := (F1.int (by unfold STk STd STr; omega)).trans h80
      have F01 : Fr (fun a k => SNz a k ∨ SSu a k) M M1 := (F0.trans (F1.mono (fun a k q => by unfold STk at q; unfold SSu SSq; rcases q with q | q; exact Or.inl (Or.inr q); exact Or.inr (Or.inr (Or.inl q))))).mono (fun a k q => Or.inr q)
      obtain ⟨p1, p2⟩ := rx_normalize hA (Nat.le_refl _) (by omega) k R1' (Or.inl h81) ht h2 W1 hw hnr
      rw [show k + 407 = q by omega] at p1 p2
      have hW1 := R1.1
      refine ⟨fun ho => ?_, fun r ho => ?_⟩
      · obtain ⟨M2, c2, u, y2, F2, R2, W2, O2⟩ := p1 ho
        refine ⟨M2, c2, ?_, F01.trans (F2.mono (fun a k q => Or.inl q)), R2, WkG_of W2 O2⟩
        refine (ge_X11_normal_0 (q + 1) 89 (nI s) M).trans ?_
        unfold T_X11_normal_0
        simp only [↓reduceIte, ↓gd_pos hO, ↓gd_pos hO0, ↓bnd2_of (show cal (q + 1) (fun zz => f_X11_isSlot zz (nI s) (wI M 89 0 0)) = _ from e), une, ↓bnd2_of (show cal (q + 1) (fun zz => f_X11_isEmpty zz 89 (nI s) (wI M 89 0 0)) = _ from e2), ↓bnd2_of (show cal (q + 1) (fun zz => f_X11_takes zz 89 (nI s) (wI M 89 0 0)) = _ from y1), ↓gd_pos (fO_R hW1), ↓bnd2_of (show cal (q + 1) (fun zz => f_X11_normalize zz 89 M1) = _ from y2), show ((0 : Int32) ≤ -4) = False from eq_false (by decide)]
      · obtain ⟨M2, c2, y2, F2, R2, W2, K2⟩ := p2 r ho
        rw [ho] at hnr
        obtain ⟨a1, a2, a3, a4, a5, a6⟩ := hnr.ok 60 ht h2 hw
        obtain ⟨M3, y3, F3, R3, W3⟩ := R2.st (fun r u hr hu => (hA.2.2.2 r u hr hu).2.1) hs W2 a2 q
        have hW3 := R3.1
        have F34 : Fr (fun a k => a = 89 ∧ k = 47) M3 (wI M3 89 47 (nI r.1.length)) := Fr.refl.wI ⟨rfl, rfl⟩ _
        have R4 := R3.w F34 (fun a k q => by omega)
        obtain ⟨M5, y5, F5, u5⟩ := nt_loop (M := wI M3 89 47 (nI r.1.length)) R4.1 a4 (q + 1) r.1.length 0 (by omega) _ Fr.refl (fun u hu => by omega)
        have R5 := R4.w F5 (fun a k q => by omega)
        obtain ⟨-, d5⟩ := tabR_mv R4.2.1 F5 (by omega) (fun a k q => by omega)
        have W5 : WrkR M5 c2 (rws r.2) := (show WrkR (wI M3 89 47 (nI r.1.length)) c2 (rws r.2) from W3).mv (F5.int (by omega)) (F5.ints (by omega)) (F5.ints (by omega)) (fun i _ => d5 i) (Nat.le_refl _)
        refine ⟨M5, c2, ?_, ((((F01.trans (F2.mono (fun a k q => Or.inl q))).mono (fun a k q => by unfold SNl; rcases q with q | q; exact Or.inl q; exact Or.inr (Or.inl q))).trans (F3.mono (fun a k q => by unfold SSt at q; unfold SNl SSu; omega))).trans (F34.mono (fun a k q => by unfold SNl; omega))).trans (F5.mono (fun a k q => by unfold SNl; omega)), R5, WkG_of W5 ⟨a1, a2, lab_ok (OkF.pt hA.1) _ a1 a3⟩, ⟨(F5.int (by omega)).trans (by simp [up2_if]), a4, fun i v hi => ?_⟩⟩
        · refine (ge_X11_normal_0 (q + 1) 89 (nI s) M).trans ?_
          unfold T_X11_normal_0
          have hk0 : ((0 : Int32) ≤ nI r.1.length) = True := eq_true (by rw [show (0 : Int32) = nI 0 from rfl, nI_le_ (by omega) (by omega)]; omega)
          simp only [↓reduceIte, ↓gd_pos hO, ↓gd_pos hO0, ↓bnd2_of (show cal (q + 1) (fun zz => f_X11_isSlot zz (nI s) (wI M 89 0 0)) = _ from e), une, ↓bnd2_of (show cal (q + 1) (fun zz => f_X11_isEmpty zz 89 (nI s) (wI M 89 0 0)) = _ from e2), ↓bnd2_of (show cal (q + 1) (fun zz => f_X11_takes zz 89 (nI s) (wI M 89 0 0)) = _ from y1), ↓gd_pos (fO_R hW1), ↓bnd2_of (show cal (q + 1) (fun zz => f_X11_normalize zz 89 M1) = _ from y2), hk0, ↓gd_pos (fO_R R2.1), ↓bnd2_of (show cal (q + 1) (fun zz => f_X11_stores zz 89 (nI s) M2) = _ from y3), ↓gd_pos (fO_R hW3)]
          exact y5
        · have hlt : i < r.1.length := by
            have := List.getElem?_eq_some_iff.mp hi
            exact this.1
          rw [u5 i hlt]
          have e6 : (wI M3 89 47 (nI r.1.length)).2.2.1 116 i = M2.2.2.1 116 i := by
            simp only [up2_if, Nat.reduceEqDiff, false_and, if_false]
            exact F3.int (by unfold SSt; omega)
          rw [e6]
          exact K2 i v hi
end NRR
