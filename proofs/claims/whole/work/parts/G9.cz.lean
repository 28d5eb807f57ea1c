/-! SIZE, the call, in the class -/
def Ssz (a k : Nat) : Prop := SAg a k ∨ a = 48 ∨ S28 a k
section CZ9
variable {M M1 : Mem} {c s n kk : Nat} {P : Fm → Prop} {H : List (Nat × Fm)} {gf : Fm} {T : Nat → Option Tm}
theorem mf_loop : ∀ z i, i + z = H.length → ∀ (M : Mem) (P : Fm → Prop), Wd M → TabC M c → HyC M 10 c H → MkS M c s P → ∃ M1, lp (st_X2_markFormulas (n + 1)) (2, [.ref 10, .ref 2, .int (nI i)], M) = some ((), M1) ∧ Fr S28 M M1 ∧ MkS M1 c s (fun g => P g ∨ ∃ j, i ≤ j ∧ ∃ hj : j < H.length, g = H[j].2) := by
  intro z
  induction z with
  | zero =>
    intro i hi M P hW hT hH hS
    have h6 := hH.2.1
    refine ⟨M, ?_, Fr.refl, hS.iff (fun v hv => ⟨Or.inl, fun g => g.elim id (fun ⟨j, j1, j2, _⟩ => by omega)⟩)⟩
    refine (ge_X2_markFormulas_2 (n + 1) 10 2 (nI i) M).trans ?_
    unfold T_X2_markFormulas_2
    have hO10 : fO M 10 2 := ⟨by rw [hW.1]; omega, s_10 hW⟩
    have hle : (nI H.length ≤ nI i) = True := eq_true (by rw [nI_le_ (by omega) (by omega)]; omega)
    simp (disch := omega) only [↓gd_pos hO10, hH.1, hle, ↓reduceIte]
  | succ z ih =>
    intro i hi M P hW hT hH hS
    have h6 := hH.2.1
    have hO10 : fO M 10 2 := ⟨by rw [hW.1]; omega, s_10 hW⟩
    have hle : (nI H.length ≤ nI i) = False := eq_false (by rw [nI_le_ (by omega) (by omega)]; omega)
    have h6' : ((6 : Int32) ≤ nI i) = False := eq_false (by rw [show (6 : Int32) = nI 6 from rfl, nI_le_ (by omega) (by omega)]; omega)
    obtain ⟨v, v1, -, v3, v4, -⟩ := hH.2.2 i (by omega)
    have v3 : M.2.2.1 12 i = nI v := v3
    have fA12 : fA M 12 1 (nI i) := ⟨by rw [hW.1]; omega, 6, s_12 hW, vp_nI (by omega) (by omega)⟩
    obtain ⟨w, M1, y1, F1, S1, -, -⟩ := c_mark hW hT hS n v1
    obtain ⟨T1, d1⟩ := hT.s28 F1
    have H1 : HyC M1 10 c H := hH.up F1 (fun a k q => by unfold S28 at q; omega) (fun i _ => d1 i) (Nat.le_refl _)
    obtain ⟨M2, y2, F2, S2⟩ := ih (i + 1) (by omega) M1 _ (F1.Wd hW) T1 H1 S1
    obtain ⟨-, d2⟩ := hT.s28 (F1.trans F2)
    refine ⟨M2, ?_, F1.trans F2, S2.iff (fun u hu => ⟨fun g => ?_, fun g => ?_⟩)⟩
    · refine (ge_X2_markFormulas_2 (n + 1) 10 2 (nI i) M).trans ?_
      unfold T_X2_markFormulas_2
      simp (disch := omega) only [↓gd_pos hO10, hH.1, hle, h6', ↓reduceIte, ↓bnd_of (r_10_1 hW), ↓gd_pos fA12, ↓gd_pos (fO_2 hW), nI_z, v3, ↓bnd2_of (show cal (n + 1) (fun zz => f_X1_mark zz 2 (nI v) M) = _ from y1), nI_1]
      exact y2
    · rcases g with (g | g) | ⟨j, j1, j2, g⟩
      · exact Or.inl g
      · exact Or.inr ⟨i, Nat.le_refl _, by omega, by rw [g, v4]⟩
      · exact Or.inr ⟨j, by omega, j2, g⟩
    · rcases g with g | ⟨j, j1, j2, g⟩
      · exact Or.inl (Or.inl g)
      · by_cases e : j = i
        · subst e
          exact Or.inl (Or.inr (by rw [g, v4]))
        · exact Or.inr ⟨j, by omega, j2, g⟩
theorem prt_cl (hT : TabC M c) (hcl : ∀ v, v < c → P (dC M v) → ∀ j a b, 9 ≤ j → j ≤ 11 → dC M v = mkF j a b → P a ∧ P b) {g : Fm} (f : Fm) : Inn M c f → P f → prt g f → P g := by
  have top : ∀ {x y : Fm} {i : Nat}, 9 ≤ i → i ≤ 11 → (Inn M c x → P x → prt g x → P g) → (Inn M c y → P y → prt g y → P g) → Inn M c (mkF i x y) → P (mkF i x y) → prt g (mkF i x y) → P g := by
    intro x y i i1 i2 ix iy ⟨v, v1, v2⟩ hP hp
    obtain ⟨a, b, ha, hb, -, -, ea, eb⟩ := hT.two v1 i1 i2 v2
    have hP' := hP
    rw [← v2] at hP'
    obtain ⟨px, py⟩ := hcl v v1 hP' i x y i1 i2 v2
    rw [prt_mk i1 i2] at hp
    rcases hp with hp | hp | hp
    · rw [hp]; exact hP
    · exact ix ⟨a, ha, ea⟩ px hp
    · exact iy ⟨b, hb, eb⟩ py hp
  induction f with
  | add x y ix iy => exact top (i := 9) (by omega) (by omega) ix iy
  | mul x y ix iy => exact top (i := 10) (by omega) (by omega) ix iy
  | sub x y ix iy => exact top (i := 11) (by omega) (by omega) ix iy
  | _ =>
    intro _ hP hp
    have hp : g = _ := hp
    rw [hp]
    exact hP
theorem StF_pt (x : Fm) : ∀ j a b, 9 ≤ j → j ≤ 11 → StF H x (mkF j a b) → StF H x a ∧ StF H x b := fun j a b h1 h2 q => by
  rcases q with q | ⟨i, hi, q⟩
  · exact ⟨Or.inl (prt_dn h1 h2 _ q).1, Or.inl (prt_dn h1 h2 _ q).2⟩
  · exact ⟨Or.inr ⟨i, hi, (prt_dn h1 h2 _ q).1⟩, Or.inr ⟨i, hi, (prt_dn h1 h2 _ q).2⟩⟩
/-- all that is told is marked -/
theorem c_markTold (hW : Wd M) (hT : TabC M c) (hH : HyC M 10 c H) (hS : MkS M c s (fun _ => False)) {v : Nat} {x : Fm} (hv : v < c) (ex : dC M v = x) (n : Nat) : ∃ w y M1 M2 M3, f_X2_markFormulas (n + 1) 10 2 M = some ((), M1) ∧ f_X1_mark (n + 1) 2 (nI v) M1 = some (w, M2) ∧ f_X1_markParts (n + 1) 2 M2 = some (y, M3) ∧ Fr S28 M M1 ∧ Fr S28 M1 M2 ∧ Fr S28 M2 M3 ∧ MkS M3 c s (StF H x) := by
  obtain ⟨M1, y1, F1, S1⟩ := mf_loop (n := n) H.length 0 (by omega) M _ hW hT hH hS
  have hW1 := F1.Wd hW
  obtain ⟨T1, d1⟩ := hT.s28 F1
  obtain ⟨w, M2, y2, F2, S2, -, -⟩ := c_mark hW1 T1 S1 (n + 1) hv
  have F12 := F1.trans F2
  have hW2 := F12.Wd hW
  obtain ⟨T2, d2⟩ := hT.s28 F12
  have hc := hT.2.1
  obtain ⟨y, M3, P3, y3, F3, S3, c1, c2, c3⟩ := mp_loop (U := StF H x) (StF_pt x) n c M2 _ (0 : Int32) hW2 T2 (Nat.le_refl _) S2 (fun u hu g => by
    rcases g with (g | ⟨j, -, hj, g⟩) | g
    · exact g.elim
    · rw [g]; exact Or.inr ⟨j, hj, prt_self _⟩
    · rw [g, d1, ex]; exact Or.inl (prt_self _)) (fun u hu hu2 => by omega)
  rw [if_neg (by omega)] at y3
  obtain ⟨T3, d3⟩ := hT.s28 (F12.trans F3)
  have e23 : ∀ i, dC M3 i = dC M2 i := fun i => (d3 i).trans (d2 i).symm
  refine ⟨w, y, M1, M2, M3, (ge_X2_markFormulas_0 (n + 1) 10 2 M).trans y1, y2, ?_, F1, F2, F3, S3.iff (fun u hu => ⟨fun g => ?_, fun g => ?_⟩)⟩
  · refine (ge_X1_markParts_0 (n + 1) 2 M2).trans ?_
    unfold T_X1_markParts_0
    have e7 : M2.2.2.1 2 7 - 1 = nI (c - 1) := by rw [T2.1]; exact nI_sub (b := 1) (by omega) (by omega)
    simp only [↓gd_pos (fO_2 hW2), e7]
    exact y3
  · rw [e23] at g ⊢
    exact c2 u hu g
  · rw [e23] at g ⊢
    have cl3 : ∀ v, v < c → P3 (dC M2 v) → ∀ j a b, 9 ≤ j → j ≤ 11 → dC M2 v = mkF j a b → P3 a ∧ P3 b := c3
    rcases g with g | ⟨j, hj, g⟩
    · exact prt_cl T2 cl3 x ⟨v, hv, by rw [d2]; exact ex⟩ (c1 _ (Or.inr (by rw [d1, ex]))) g
    · obtain ⟨u2, u1, -, -, u4, -⟩ := hH.2.2 j hj
      exact prt_cl T2 cl3 H[j].2 ⟨u2, u1, by rw [d2]; exact u4⟩ (c1 _ (Or.inl (Or.inr ⟨j, Nat.zero_le _, hj, rfl⟩))) g
theorem MkS.mc {s kk : Nat} (h : MkS M c s P) (hs : s ≤ kk) : MkC kk M := ⟨s, hs, h.2.1, h.2.2.1⟩
set_option maxHeartbeats 1000000 in
theorem c_sizeBy (hW : Wd M) (hT : TabC M c) (hH : HyC M 10 c H) (hG : GlC M c gf) {tr : Nat} {t : Tm} (ht : isT t) (hL : LtC M tr c (rws t)) {x : Fm} {tl : Nat → Fm} (hty : ∀ i, i < sz t → TyQ M c i (tl i)) (h0 : tl 0 = x) (hm : MkC kk M) (hkk : kk < 900) {w : Nat} (hw : w = 3 ∨ w = 4 ∨ w = 5) (n : Nat) : ∃ v M1, f_X10_sizeByFormulas (n + 3) 0 (nI w) M = some (v, M1) ∧ SzA H gf t x tl w v ∧ Fr S28 M M1 ∧ MkC (kk + 1) M1 := by
  have hz := sz_pos t ht
  obtain ⟨v, v1, v2, v3⟩ := hty 0 hz
  rw [h0] at v3
  obtain ⟨m, hm'⟩ : ∃ m, m = n + 2 := ⟨_, rfl⟩
  have h200 := hL.2.2.2.2.1
  rw [rws_len] at h200
  have ee : f_X10_sizeByFormulas (m + 1) 0 (nI w) M = T_X10_sizeByFormulas_0 (fun v M => some (v, M)) none (m + 1) 0 (nI w) M := rfl
  rw [show n + 3 = m + 1 by omega, ee]
  have hc := hT.2.1
  by_cases h5 : w = 5
  · obtain ⟨u, u1, u2, u3, -⟩ := hG
    have q5 : (nI w = (5 : Int32)) = True := eq_true (by rw [h5]; rfl)
    have y1 := c_typeOf hW m (i := 0) (by omega)
    rw [v2] at y1
    have y1' : f_X3_typeOf m 40 0 M = some (nI v, M) := y1
    by_cases e : x = gf
    · have : v = u := hT.inj v1 u1 (by rw [v3, u3, e])
      subst this
      refine ⟨1, M, ?_, Or.inr (Or.inr (Or.inr (Or.inr (Or.inr (Or.inl ⟨h5, Or.inl ⟨e, rfl⟩⟩))))), Fr.refl, hm.up⟩
      unfold T_X10_sizeByFormulas_0
      simp (disch := omega) only [q5, ↓reduceIte, ↓gd_pos (fO_0 hW), ↓bnd_of (r_0_7 hW), ↓gd_pos (fO40 hW), ↓bnd2_of (show cal (m + 1) (fun zz => f_X3_typeOf zz 40 0 M) = _ from y1'), u2]
    · have hne : (nI v = nI u) = False := eq_false (fun q => e (by
        have := (nI_eq (by omega) (by omega)).mp q
        rw [← v3, ← u3, this]))
      refine ⟨0, M, ?_, Or.inr (Or.inr (Or.inr (Or.inr (Or.inr (Or.inl ⟨h5, Or.inr ⟨e, rfl⟩⟩))))), Fr.refl, hm.up⟩
      unfold T_X10_sizeByFormulas_0
      simp (disch := omega) only [q5, ↓reduceIte, ↓gd_pos (fO_0 hW), ↓bnd_of (r_0_7 hW), ↓gd_pos (fO40 hW), ↓bnd2_of (show cal (m + 1) (fun zz => f_X3_typeOf zz 40 0 M) = _ from y1'), u2, hne]
  · have q5 : (nI w = (5 : Int32)) = False := eq_false (fun z => by have := (nI_eq (b := 5) (by omega) (by omega)).mp z; omega)
    obtain ⟨M1, s, y1, F1, S1, hs⟩ := c_beginMarks hW hT hm hkk m
    have hW1 := F1.Wd hW
    obtain ⟨T1, d1⟩ := hT.s28 F1
    have mv : ∀ {M2 : Mem}, Fr S28 M M2 → LtC M2 tr c (rws t) ∧ TabC M2 c ∧ ∀ i, i < (rws t).length → TyQ M2 c i (tl i) := by
      intro M2 F
      obtain ⟨T2, d2⟩ := hT.s28 F
      exact ⟨hL.up F (fun a k q => by unfold S28 at q; omega) (fun i _ => d2 i) (Nat.le_refl _), T2, fun i hi => (hty i hi).up (F.int (by unfold S28; omega)) (fun i _ => d2 i) (Nat.le_refl _)⟩
    by_cases h4 : w = 4
    · have q4 : (nI w = (4 : Int32)) = True := eq_true (by rw [h4]; rfl)
      have H1 : HyC M1 10 c H := hH.up F1 (fun a k q => by unfold S28 at q; omega) (fun i _ => d1 i) (Nat.le_refl _)
      obtain ⟨w2, y', M2, M3, M4, y2, y3, y4, F2, F3, F4, S4⟩ := c_markTold (x := x) hW1 T1 H1 S1 v1 (by rw [d1]; exact v3) (n + 1)
      have hW2 := F2.Wd hW1
      have hW3 := F3.Wd hW2
      have hW4 := F4.Wd hW3
      have F14 := ((F1.trans F2).trans F3).trans F4
      obtain ⟨L4, T4, ty4⟩ := mv F14
      obtain ⟨q, M5, q1, y5, F5, P5, S5⟩ := mt_loop (n := n + 1) (tl := tl) (rws t).length 0 0 (by omega) (by rw [rws_len]; omega) M4 _ L4 T4 S4 ty4
      rw [Nat.zero_add] at y5
      have y5' : f_X3_markTypes (n + 1 + 1) 40 M4 = some (nI q, M5) := (ge_X3_markTypes_0 (n + 1 + 1) 40 M4).trans y5
      rw [show n + 1 + 1 = m by omega] at y2 y3 y4 y5'
      have y6 := c_typeOf hW2 m (i := 0) (by omega)
      rw [(F1.trans F2).int (by unfold S28; omega), v2] at y6
      have y6' : f_X3_typeOf m 40 0 M2 = some (nI v, M2) := y6
      refine ⟨nI q, M5, ?_, Or.inr (Or.inr (Or.inr (Or.inr (Or.inl ⟨h4, q, rfl, q1⟩)))), F14.trans F5, S5.mc hs⟩
      unfold T_X10_sizeByFormulas_0
      have hO10 : fO M1 10 2 := ⟨by rw [hW1.1]; omega, s_10 hW1⟩
      simp (disch := omega) only [q5, q4, ↓reduceIte, ↓gd_pos (fO_0 hW), ↓bnd_of (r_0_2 hW), ↓gd_pos (fO_2 hW), ↓bnd2_of (show cal (m + 1) (fun zz => f_X1_beginMarks zz 2 M) = _ from y1), ↓gd_pos (fO_0 hW1), ↓bnd_of (r_0_3 hW1), ↓bnd_of (r_0_2 hW1), ↓gd_pos hO10, ↓bnd2_of (show cal (m + 1) (fun zz => f_X2_markFormulas zz 10 2 M1) = _ from y2), ↓gd_pos (fO_0 hW2), ↓bnd_of (r_0_2 hW2), ↓bnd_of (r_0_7 hW2), ↓gd_pos (fO40 hW2), ↓bnd2_of (show cal (m + 1) (fun zz => f_X3_typeOf zz 40 0 M2) = _ from y6'), ↓gd_pos (fO_2 hW2), ↓bnd2_of (show cal (m + 1) (fun zz => f_X1_mark zz 2 (nI v) M2) = _ from y3), ↓gd_pos (fO_0 hW3), ↓bnd_of (r_0_2 hW3), ↓gd_pos (fO_2 hW3), ↓bnd2_of (show cal (m + 1) (fun zz => f_X1_markParts zz 2 M3) = _ from y4), ↓gd_pos (fO_0 hW4), ↓bnd_of (r_0_7 hW4), ↓gd_pos (fO40 hW4), ↓bnd2_of (show cal (m + 1) (fun zz => f_X3_markTypes zz 40 M4) = _ from y5')]
    · have h3 : w = 3 := by omega
      have q4 : (nI w = (4 : Int32)) = False := eq_false (by rw [h3]; decide)
      obtain ⟨L1, T1', ty1⟩ := mv F1
      obtain ⟨q, M5, q1, y5, F5, P5, S5⟩ := mt_loop (n := n + 1) (tl := tl) (rws t).length 0 0 (by omega) (by rw [rws_len]; omega) M1 _ L1 T1' S1 ty1
      rw [Nat.zero_add] at y5
      have y5' : f_X3_markTypes (n + 1 + 1) 40 M1 = some (nI q, M5) := (ge_X3_markTypes_0 (n + 1 + 1) 40 M1).trans y5
      rw [show n + 1 + 1 = m by omega] at y5'
      refine ⟨nI q, M5, ?_, Or.inr (Or.inr (Or.inr (Or.inl ⟨h3, q, rfl, q1⟩))), F1.trans F5, S5.mc hs⟩
      unfold T_X10_sizeByFormulas_0
      simp (disch := omega) only [q5, q4, ↓reduceIte, ↓gd_pos (fO_0 hW), ↓bnd_of (r_0_2 hW), ↓gd_pos (fO_2 hW), ↓bnd2_of (show cal (m + 1) (fun zz => f_X1_beginMarks zz 2 M) = _ from y1), ↓gd_pos (fO_0 hW1), ↓bnd_of (r_0_7 hW1), ↓gd_pos (fO40 hW1), ↓bnd2_of (show cal (m + 1) (fun zz => f_X3_markTypes zz 40 M1) = _ from y5')]
end CZ9
