/-! SIZE in the reference: formulas that are unlike -/
section UL2
variable {M M1 : Mem} {c n : Nat} {l : List (Nat × Tm)} {H : List (Nat × Fm)} {x : Fm}
theorem fA_95 (hW : Wd M) {i : Nat} (hi : i < 16384) : fA M 95 1 (nI i) := fA_R hW (a := 95) (by omega) (s_95 hW) hi (by omega)
theorem ul_7 {x1 x2 : Int32} : ∀ z i, i + z = c → ∀ (M : Mem), Wd M → TabR M c → (∀ v, v < i → M.2.2.1 95 v = -1) → ∃ M1, lp (st_X11_unlike (n + 1)) (7, [.ref 89, .int x1, .int x2, .int (nI i)], M) = lp (st_X11_unlike (n + 1)) (7, [.ref 89, .int x1, .int x2, .int (nI c)], M1) ∧ Fr S95 M M1 ∧ ∀ v, v < c → M1.2.2.1 95 v = -1 := by
  intro z
  induction z with
  | zero =>
    intro i hi M hW hT h
    have : i = c := by omega
    subst this
    exact ⟨M, rfl, Fr.refl, h⟩
  | succ z ih =>
    intro i hi M hW hT h
    have hc := hT.2.1
    have F : Fr S95 M (wI M 95 i (-1)) := Fr.refl.wI (show S95 95 _ from rfl) _
    obtain ⟨T1, -⟩ := tabR_mv hT F (by unfold S95; omega) (fun a k q => by unfold S95 at q; omega)
    obtain ⟨M1, e1, F1, h1⟩ := ih (i + 1) (by omega) (wI M 95 i (-1)) (F.Wd hW) T1 (fun v hv => by
      by_cases e : v = i
      · simp [up2_if, e]
      · simp [up2_if, e]; exact h v (by omega))
    refine ⟨M1, ?_, F.trans F1, h1⟩
    refine (ge_X11_unlike_7 (n + 1) 89 x1 x2 (nI i) M).trans ?_
    unfold T_X11_unlike_7
    have hle : (nI c ≤ nI i) = False := eq_false (by rw [nI_le_ (by omega) (by omega)]; omega)
    simp (disch := omega) only [↓gd_pos (fO_R hW), hT.1, hle, ↓reduceIte, ↓bnd_of (r_89_6 hW), ↓gd_pos (fA_95 hW (show i < 16384 by omega)), nI_z, nI_1]
    exact e1
/-- which formulas are marked -/
def Mk95 (M : Mem) (c : Nat) (P : Fm → Prop) : Prop := ∀ v, v < c → (M.2.2.1 95 v ≠ -1 ↔ P (dR M v))
/-- marks are closed, and of what is told -/
def Cl95 (M : Mem) (c : Nat) (U : Fm → Prop) : Prop := ∀ i, i < c → M.2.2.1 95 i ≠ -1 → U (dR M i) ∧ PkR M M i
theorem ul_mark {U : Fm → Prop} (hU : ∀ j a b, 9 ≤ j → j ≤ 11 → U (mkF j a b) → U a ∧ U b) (hW : Wd M) (hT : TabR M c) (h : Cl95 M c U) {f : Nat} (hf : f < c) (hUf : U (dR M f)) (hd : dpf (dR M f) ≤ 200) (k : Nat) : ∃ M1, f_X11_marks (202 + k) 89 (nI f) M = some ((), M1) ∧ Fr S95 M M1 ∧ Cl95 M1 c U ∧ (∀ i, M.2.2.1 95 i ≠ -1 → M1.2.2.1 95 i ≠ -1) ∧ M1.2.2.1 95 f ≠ -1 := by
  have hc := hT.2.1
  have hS : ∀ i, i < c → (i < c ∧ U (dR M i)) → ∀ a, a < 20000 → (M.2.2.1 91 i = nI a ∨ M.2.2.1 92 i = nI a) → (a < c ∧ U (dR M a)) := by
    intro i hi ⟨_, hi2⟩ a ha hl
    rcases hT.cases hi with ⟨j, hj, e1, e2, e3, e4⟩ | ⟨j, u, v, j1, j2, hu, hv, e1, e2, e3, e4⟩
    · rw [e2, e3] at hl
      rcases hl with hl | hl <;> exact absurd hl.symm (of_eq_false (nI_ne_m1 (by omega)))
    · rw [e4] at hi2
      obtain ⟨ua, ub⟩ := hU j _ _ j1 j2 hi2
      rw [e2, e3] at hl
      rcases hl with hl | hl
      · have := (nI_eq (by omega) (by omega)).mp hl
        subst this
        exact ⟨by omega, ua⟩
      · have := (nI_eq (by omega) (by omega)).mp hl
        subst this
        exact ⟨by omega, ub⟩
  obtain ⟨M1, y1, O1, g1⟩ := rx_marks (by omega) (S := fun i => i < c ∧ U (dR M i)) hS 200 k f M rfl rfl ⟨hf, hUf⟩ hW hT.2.2.1 hf hd
  rw [show 200 + 2 + k = 202 + k by omega] at y1
  have d1 : dR M1 = dR M := dR_fq O1.1.q (fun k q => by unfold S95 at q; omega) (fun k q => by unfold S95 at q; omega) (fun k q => by unfold S95 at q; omega)
  have e91 : M1.2.2.1 91 = M.2.2.1 91 := O1.1.ints (fun k q => by unfold S95 at q; omega)
  have e92 : M1.2.2.1 92 = M.2.2.1 92 := O1.1.ints (fun k q => by unfold S95 at q; omega)
  refine ⟨M1, y1, O1.1, fun i hi hm => ?_, O1.2.1, g1⟩
  rcases O1.2.2 i hm with g | ⟨-, ⟨-, g⟩, g2⟩
  · obtain ⟨u1, u2⟩ := h i hi g
    refine ⟨by rw [d1]; exact u1, fun a b ha hb ea eb => ?_⟩
    rw [e91] at ea
    rw [e92] at eb
    obtain ⟨p1, p2⟩ := u2 a b ha hb ea eb
    exact ⟨O1.2.1 a p1, O1.2.1 b p2⟩
  · refine ⟨by rw [d1]; exact g, fun a b ha hb ea eb => ?_⟩
    rw [e91] at ea
    rw [e92] at eb
    exact g2 a b ha hb ea eb
theorem ul_prt {U : Fm → Prop} (hT : TabR M c) (h : Cl95 M c U) {g : Fm} (f : Fm) : prt g f → (∃ v, v < c ∧ dR M v = f ∧ M.2.2.1 95 v ≠ -1) → ∃ v, v < c ∧ dR M v = g ∧ M.2.2.1 95 v ≠ -1 := by
  have hc := hT.2.1
  have top : ∀ {a b : Fm} {i : Nat}, 9 ≤ i → i ≤ 11 → (prt g a → (∃ v, v < c ∧ dR M v = a ∧ M.2.2.1 95 v ≠ -1) → ∃ v, v < c ∧ dR M v = g ∧ M.2.2.1 95 v ≠ -1) → (prt g b → (∃ v, v < c ∧ dR M v = b ∧ M.2.2.1 95 v ≠ -1) → ∃ v, v < c ∧ dR M v = g ∧ M.2.2.1 95 v ≠ -1) → prt g (mkF i a b) → (∃ v, v < c ∧ dR M v = mkF i a b ∧ M.2.2.1 95 v ≠ -1) → ∃ v, v < c ∧ dR M v = g ∧ M.2.2.1 95 v ≠ -1 := by
    intro a b i i1 i2 ia ib hp ⟨v, v1, v2, v3⟩
    rw [prt_mk i1 i2] at hp
    rcases hT.cases v1 with ⟨j, hj, e1, e2, e3, e4⟩ | ⟨j, p, q, j1, j2, hp', hq, e1, e2, e3, e4⟩
    · rw [v2] at e4
      exact (mkF_ne e4).elim
    · rw [v2] at e4
      obtain ⟨-, ea, eb⟩ := mkF_inj i1 i2 j1 j2 e4
      obtain ⟨m1, m2⟩ := (h v v1 v3).2 p q (by omega) (by omega) e2 e3
      rcases hp with hp | hp | hp
      · exact ⟨v, v1, by rw [hp]; exact v2, v3⟩
      · exact ia hp ⟨p, by omega, ea.symm, m1⟩
      · exact ib hp ⟨q, by omega, eb.symm, m2⟩
  induction f with
  | add a b ia ib => exact top (i := 9) (by omega) (by omega) ia ib
  | mul a b ia ib => exact top (i := 10) (by omega) (by omega) ia ib
  | sub a b ia ib => exact top (i := 11) (by omega) (by omega) ia ib
  | _ =>
    intro hp hv
    have hp : g = _ := hp
    rw [hp]
    exact hv
theorem ul_39 {U : Fm → Prop} (hU : ∀ j a b, 9 ≤ j → j ≤ 11 → U (mkF j a b) → U a ∧ U b) (hUH : ∀ j, (hj : j < H.length) → U H[j].2 ∧ dpf H[j].2 ≤ 200) (k : Nat) : ∀ z i, i + z = H.length → ∀ (M : Mem), Wd M → TabR M c → HyR M 15 96 97 98 c H → Cl95 M c U → ∃ M1, lp (st_X11_unlike (203 + k)) (39, [.ref 89, .int (nI i)], M) = lp (st_X11_unlike (203 + k)) (68, [.ref 89, .int (nI 0), .int (nI 0)], M1) ∧ Fr S95 M M1 ∧ Cl95 M1 c U ∧ (∀ v, M.2.2.1 95 v ≠ -1 → M1.2.2.1 95 v ≠ -1) ∧ ∀ j, (hj : j < H.length) → i ≤ j → ∃ v, v < c ∧ dR M1 v = H[j].2 ∧ M1.2.2.1 95 v ≠ -1 := by
  obtain ⟨n, hn⟩ : ∃ n, n = 202 + k := ⟨_, rfl⟩
  rw [show 203 + k = n + 1 by omega]
  intro z
  induction z with
  | zero =>
    intro i hi M hW hT hH h
    have h6 := hH.2.1
    refine ⟨M, ?_, Fr.refl, h, fun _ g => g, fun j hj hj2 => by omega⟩
    refine (ge_X11_unlike_39 (n + 1) 89 (nI i) M).trans ?_
    unfold T_X11_unlike_39
    have hle : (nI H.length ≤ nI i) = True := eq_true (by rw [nI_le_ (by omega) (by omega)]; omega)
    simp (disch := omega) only [↓gd_pos (fO_R hW), hH.1, hle, ↓reduceIte]
    rfl
  | succ z ih =>
    intro i hi M hW hT hH h
    have h6 := hH.2.1
    obtain ⟨-, v, v1, v2, v3⟩ := hH.2.2 i (by omega)
    obtain ⟨u1, u2⟩ := hUH i (by omega)
    obtain ⟨M1, y1, F1, C1, m1, g1⟩ := ul_mark hU hW hT h v1 (by rw [v3]; exact u1) (by rw [v3]; exact u2) k
    rw [← hn] at y1
    obtain ⟨T1, d1⟩ := tabR_mv hT F1 (by unfold S95; omega) (fun a k q => by unfold S95 at q; omega)
    have H1 : HyR M1 15 96 97 98 c H := hH.fr (F1.int (by unfold S95; omega)) (F1.ints (by unfold S95; omega)) (F1.ints (by unfold S95; omega)) (F1.ints (by unfold S95; omega)) (Nat.le_refl _) (fun i _ => d1 i)
    obtain ⟨M2, y2, F2, C2, m2, g2⟩ := ih (i + 1) (by omega) M1 (F1.Wd hW) T1 H1 C1
    obtain ⟨-, d2⟩ := tabR_mv hT (F1.trans F2) (by unfold S95; omega) (fun a k q => by unfold S95 at q; omega)
    refine ⟨M2, ?_, F1.trans F2, C2, fun v hv => m2 v (m1 v hv), fun j hj hj2 => ?_⟩
    · refine (ge_X11_unlike_39 (n + 1) 89 (nI i) M).trans ?_
      unfold T_X11_unlike_39
      have hle : (nI H.length ≤ nI i) = False := eq_false (by rw [nI_le_ (by omega) (by omega)]; omega)
      have fA98 : fA M 98 1 (nI i) := ⟨by rw [hW.1]; omega, 6, s_98 hW, vp_nI (by omega) (by omega)⟩
      simp (disch := omega) only [↓gd_pos (fO_R hW), hH.1, hle, ↓reduceIte, ↓bnd_of (r_89_11 hW), ↓gd_pos fA98, nI_z, v2, ↓bnd2_of (show cal (n + 1) (fun zz => f_X11_marks zz 89 (nI v) M) = _ from y1), nI_1]
      exact y2
    · by_cases e : j = i
      · subst e
        exact ⟨v, v1, by rw [d2]; exact v3, m2 v g1⟩
      · exact g2 j hj (by omega)
theorem ul_68 {tl : Nat → Fm} : ∀ z i m, i + z = l.length → m + z ≤ 500 → ∀ (M : Mem) (P : Fm → Prop), Wd M → TabR M c → WrkR M c l → Mk95 M c P → (∀ i, i < l.length → TyR M c i (tl i)) → ∃ q M1, CntR P ((List.range' i z).map tl) q ∧ lp (st_X11_unlike (n + 1)) (68, [.ref 89, .int (nI m), .int (nI i)], M) = some (nI (m + q), M1) ∧ Fr S95 M M1 := by
  intro z
  induction z with
  | zero =>
    intro i m hi hm M P hW hT hR hS hty
    have hl := hR.2.1
    refine ⟨0, M, rfl, ?_, Fr.refl⟩
    refine (ge_X11_unlike_68 (n + 1) 89 (nI m) (nI i) M).trans ?_
    unfold T_X11_unlike_68
    have hle : (nI l.length ≤ nI i) = True := eq_true (by rw [nI_le_ (by omega) (by omega)]; omega)
    simp (disch := omega) only [↓gd_pos (fO_R hW), hR.1, hle, ↓reduceIte]
    rfl
  | succ z ih =>
    intro i m hi hm M P hW hT hR hS hty
    have hl := hR.2.1
    have hc := hT.2.1
    have hle : (nI l.length ≤ nI i) = False := eq_false (by rw [nI_le_ (by omega) (by omega)]; omega)
    obtain ⟨v, v1, v2, v3⟩ := hty i (by omega)
    have fA3 := fA_R hW (a := 113) (by omega) (s_113 hW) (show i < 400 by omega) (by omega)
    have fA5 := fA_95 hW (show v < 16384 by omega)
    rw [List.range'_succ, List.map_cons]
    by_cases q : M.2.2.1 95 v = -1
    · have hP : ¬ P (tl i) := fun g => ((hS v v1).mpr (by rw [v3]; exact g)) q
      have q' : (M.2.2.1 95 v = -1) = True := eq_true q
      have F : Fr S95 M (wI M 95 v 0) := Fr.refl.wI (show S95 95 _ from rfl) _
      obtain ⟨T1, d1⟩ := tabR_mv hT F (by unfold S95; omega) (fun a k q => by unfold S95 at q; omega)
      have R1 : WrkR (wI M 95 v 0) c l := hR.mv (F.int (by unfold S95; omega)) (F.ints (by unfold S95; omega)) (F.ints (by unfold S95; omega)) (fun i _ => d1 i) (Nat.le_refl _)
      have S1 : Mk95 (wI M 95 v 0) c (fun g => P g ∨ g = tl i) := fun u hu => by
        rw [d1]
        by_cases e : u = v
        · subst e
          exact ⟨fun _ => Or.inr v3, fun _ => by simp [up2_if]⟩
        · have := hS u hu
          refine ⟨fun g => Or.inl (this.mp ?_), fun g => ?_⟩
          · simp [up2_if, e] at g
            exact g
          · simp [up2_if, e]
            rcases g with g | g
            · exact this.mpr g
            · exact absurd (hT.inj hu v1 (by rw [g, v3])) e
      obtain ⟨k, M2, q1, q2, q3⟩ := ih (i + 1) (m + 1) (by omega) (by omega) _ _ (F.Wd hW) T1 R1 S1 (fun j hj => by
        obtain ⟨w, w1, w2, w3⟩ := hty j hj
        exact ⟨w, w1, (F.int (by unfold S95; omega)).trans w2, (d1 w).trans w3⟩)
      refine ⟨k + 1, M2, Or.inr ⟨hP, k, rfl, q1⟩, ?_, F.trans q3⟩
      refine (ge_X11_unlike_68 (n + 1) 89 (nI m) (nI i) M).trans ?_
      unfold T_X11_unlike_68
      simp (disch := omega) only [↓gd_pos (fO_R hW), hR.1, hle, ↓reduceIte, ↓bnd_of (r_89_6 hW), ↓bnd_of (r_89_40 hW), ↓gd_pos fA3, nI_z, v2, ↓gd_pos fA5, q', nI_1]
      rw [show m + (k + 1) = m + 1 + k by omega]
      exact q2
    · have hP : P (tl i) := by rw [← v3]; exact (hS v v1).mp q
      have q' : (M.2.2.1 95 v = -1) = False := eq_false q
      obtain ⟨k, M2, q1, q2, q3⟩ := ih (i + 1) m (by omega) (by omega) M P hW hT hR hS hty
      refine ⟨k, M2, Or.inl ⟨hP, q1⟩, ?_, q3⟩
      refine (ge_X11_unlike_68 (n + 1) 89 (nI m) (nI i) M).trans ?_
      unfold T_X11_unlike_68
      simp (disch := omega) only [↓gd_pos (fO_R hW), hR.1, hle, ↓reduceIte, ↓bnd_of (r_89_6 hW), ↓bnd_of (r_89_40 hW), ↓gd_pos fA3, nI_z, v2, ↓gd_pos fA5, q', nI_1]
      exact q2
variable {gf : Fm} {T : Nat → Option Tm} {CI : Fm → Prop} {K : Nat}
def SUl (a k : Nat) : Prop := SSp a k ∨ S95 a k
set_option maxHeartbeats 1000000 in
theorem rx_unlike (h : RfS M c H gf T CI K) (hA : OkA CI H gf T) (hK2 : K ≤ 11000) {t : Tm} (ht : isT t) (h2 : sz t ≤ 200) (hR : WrkR M c (rws t)) (hw : Wc (OkF CI) H.length (hF H) t 0 gN 0 x) {tl : Nat → Fm} (htl : Wt (fun i y => tl i = y) H.length (hF H) t 0 gN 0 x) {a : Nat} (ha : a < 2) (k : Nat) : ∃ q M1 c1, f_X11_unlike (k + 406) 89 (nI a) M = some (nI q, M1) ∧ (a = 0 → CntR (fun _ => False) (tyS tl (sz t)) q) ∧ (a = 1 → CntR (StF H x) (tyS tl (sz t)) q) ∧ Fr SUl M M1 ∧ RfS M1 c1 H gf T CI K ∧ WrkR M1 c1 (rws t) := by
  obtain ⟨u, c1, M1, y1, F1, R1, W1, u1, u2, wt, -, -, -⟩ := rx_askedR h hA hK2 ht h2 hR hw k
  have hW := h.1
  have hW1 := R1.1
  have hT1 := R1.2.1
  obtain ⟨n, hn⟩ : ∃ n, n = k + 405 := ⟨_, rfl⟩
  rw [← hn] at y1
  have tyl : ∀ i, i < (rws t).length → TyR M1 c1 i (tl i) := fun i hi => by
    obtain ⟨y, g1, g2⟩ := (Wt.and t ht wt htl).all t ht i (Nat.zero_le _) (by rw [rws_len] at hi; omega)
    rw [g2]; exact g1
  obtain ⟨M2, y2, F2, g2⟩ := ul_7 (n := n) (x1 := nI a) (x2 := nI u) c1 0 (by omega) M1 hW1 hT1 (fun v hv => by omega)
  have hW2 := F2.Wd hW1
  obtain ⟨T2, d2⟩ := tabR_mv hT1 F2 (by unfold S95; omega) (fun a k q => by unfold S95 at q; omega)
  have start : f_X11_unlike (n + 1) 89 (nI a) M = lp (st_X11_unlike (n + 1)) (7, [.ref 89, .int (nI a), .int (nI u), .int (nI c1)], M2) := by
    refine (ge_X11_unlike_0 (n + 1) 89 (nI a) M).trans ?_
    unfold T_X11_unlike_0
    simp only [↓gd_pos (fO_R hW), ↓bnd2_of (show cal (n + 1) (fun zz => f_X11_asked zz 89 M) = _ from y1)]
    exact y2
  -- behind the marks
  have fin : ∀ {M3 : Mem} {P : Fm → Prop}, Fr S95 M1 M3 → Mk95 M3 c1 P → ∃ q M4, CntR P (tyS tl (sz t)) q ∧ lp (st_X11_unlike (n + 1)) (68, [.ref 89, .int (nI 0), .int (nI 0)], M3) = some (nI q, M4) ∧ Fr SUl M M4 ∧ RfS M4 c1 H gf T CI K ∧ WrkR M4 c1 (rws t) := by
    intro M3 P F3 S3
    obtain ⟨T3, d3⟩ := tabR_mv hT1 F3 (by unfold S95; omega) (fun a k q => by unfold S95 at q; omega)
    have R3 : WrkR M3 c1 (rws t) := W1.mv (F3.int (by unfold S95; omega)) (F3.ints (by unfold S95; omega)) (F3.ints (by unfold S95; omega)) (fun i _ => d3 i) (Nat.le_refl _)
    obtain ⟨q, M4, q1, q2, q3⟩ := ul_68 (n := n) (tl := tl) (rws t).length 0 0 (by omega) (by rw [rws_len]; omega) M3 P (F3.Wd hW1) T3 R3 S3 (fun j hj => by
      obtain ⟨w, w1, w2, w3⟩ := tyl j hj
      exact ⟨w, w1, (F3.int (by unfold S95; omega)).trans w2, (d3 w).trans w3⟩)
    rw [Nat.zero_add] at q2
    have F14 := F3.trans q3
    obtain ⟨T4, d4⟩ := tabR_mv hT1 F14 (by unfold S95; omega) (fun a k q => by unfold S95 at q; omega)
    exact ⟨q, M4, q1, q2, (F1.mono (fun a k q => Or.inl q)).trans (F14.mono (fun a k q => Or.inr q)), R1.mv F14 (fun a k q => by unfold S95 at q; omega) T4 (fun i _ => d4 i) (Nat.le_refl _) (R1.2.2.2.2.2.same (fun i _ => d4 i)), W1.mv (F14.int (by unfold S95; omega)) (F14.ints (by unfold S95; omega)) (F14.ints (by unfold S95; omega)) (fun i _ => d4 i) (Nat.le_refl _)⟩
  have hle : (nI c1 ≤ nI c1) = True := eq_true (by rw [nI_le_ (by have := hT1.2.1; omega) (by have := hT1.2.1; omega)]; exact Nat.le_refl _)
  rw [show k + 406 = n + 1 by omega]
  by_cases ha0 : a = 0
  · obtain ⟨q, M4, q1, q2, F4, R4, W4⟩ := fin (P := fun _ => False) F2 (fun v hv => ⟨fun g => absurd (g2 v hv) g, fun g => g.elim⟩)
    refine ⟨q, M4, c1, ?_, fun _ => q1, fun g => by omega, F4, R4, W4⟩
    rw [start]
    refine (ge_X11_unlike_7 (n + 1) 89 (nI a) (nI u) (nI c1) M2).trans ?_
    unfold T_X11_unlike_7
    have hz : (nI a = (0 : Int32)) = True := eq_true (by rw [ha0]; rfl)
    simp (disch := omega) only [↓gd_pos (fO_R hW2), T2.1, hle, ↓reduceIte, hz]
    exact q2
  · have hz : (nI a = (0 : Int32)) = False := eq_false (fun z => by have := (nI_eq (b := 0) (by omega) (by omega)).mp z; omega)
    have hUp := StF_pt (H := H) x
    obtain ⟨M3, y3, F3, C3, m3, g3⟩ := ul_mark (U := StF H x) hUp hW2 T2 (fun i hi hm => absurd (g2 i hi) hm) u1 (by rw [d2, u2]; exact Or.inl (prt_self _)) (by rw [d2, u2]; exact (hw.root t ht).2) (k + 203)
    rw [show 202 + (k + 203) = n by omega] at y3
    have F13 := F2.trans F3
    have hW3 := F13.Wd hW1
    obtain ⟨T3, d3⟩ := tabR_mv hT1 F13 (by unfold S95; omega) (fun a k q => by unfold S95 at q; omega)
    have H3 : HyR M3 15 96 97 98 c1 H := R1.2.2.1.fr (F13.int (by unfold S95; omega)) (F13.ints (by unfold S95; omega)) (F13.ints (by unfold S95; omega)) (F13.ints (by unfold S95; omega)) (Nat.le_refl _) (fun i _ => d3 i)
    obtain ⟨M5, y5, F5, C5, m5, g5⟩ := ul_39 (U := StF H x) hUp (fun j hj => ⟨Or.inr ⟨j, hj, prt_self _⟩, (hA.2.1 _ (List.getElem_mem hj)).2⟩) (k + 203) H.length 0 (by omega) M3 hW3 T3 H3 C3
    rw [show 203 + (k + 203) = n + 1 by omega] at y5
    have F15 := F13.trans F5
    obtain ⟨T5, d5⟩ := tabR_mv hT1 F15 (by unfold S95; omega) (fun a k q => by unfold S95 at q; omega)
    obtain ⟨q, M4, q1, q2, F4, R4, W4⟩ := fin (P := StF H x) F15 (fun v hv => ⟨fun g => (C5 v hv g).1, fun g => by
      obtain ⟨w, w1, w2, w3⟩ : ∃ w, w < c1 ∧ dR M5 w = dR M5 v ∧ M5.2.2.1 95 w ≠ -1 := by
        rcases g with g | ⟨j, hj, g⟩
        · exact ul_prt T5 C5 x g ⟨u, u1, by rw [d5]; exact u2, m5 u g3⟩
        · exact ul_prt T5 C5 H[j].2 g (g5 j hj (Nat.zero_le _))
      have := T5.inj w1 hv w2
      subst this
      exact w3⟩)
    refine ⟨q, M4, c1, ?_, fun g => absurd g ha0, fun _ => q1, F4, R4, W4⟩
    rw [start]
    refine (ge_X11_unlike_7 (n + 1) 89 (nI a) (nI u) (nI c1) M2).trans ?_
    unfold T_X11_unlike_7
    simp (disch := omega) only [↓gd_pos (fO_R hW2), T2.1, hle, ↓reduceIte, hz, ↓bnd2_of (show cal (n + 1) (fun zz => f_X11_marks zz 89 (nI u) M2) = _ from y3)]
    exact y5.trans q2
end UL2
