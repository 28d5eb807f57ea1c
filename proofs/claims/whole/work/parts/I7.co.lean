/-! PARTS in the class: collected -/
def S75 (a k : Nat) : Prop := (a = 74 ∧ k = 6) ∨ (75 ≤ a ∧ a ≤ 78)
/-- the spot of a part's part -/
def SpV (S : Nat → Prop) (x y : Int32) : Prop := (x = -1 ∧ y = -1) ∨ ∃ a, a < 5200 ∧ S a ∧ x = nI a ∧ y = nI (cP S a)
/-- parts collected up to a number -/
def PrS (M : Mem) (S : Nat → Prop) (v : Nat) : Prop := M.2.2.1 74 6 = nI (cP S v) ∧ ∀ u, u < v → S u → M.2.2.1 75 u = nI (cP S u) ∧ M.2.2.1 76 (cP S u) = M.2.2.1 3 u ∧ SpV S (M.2.2.1 4 u) (M.2.2.1 77 (cP S u)) ∧ SpV S (M.2.2.1 5 u) (M.2.2.1 78 (cP S u))
section CO7
variable {M M0 M1 : Mem} {c s n : Nat} {S : Nat → Prop}
theorem fO74 (hW : Wd M) : fO M 74 5 := ⟨by rw [hW.1]; omega, s_74 hW⟩
theorem TabC.s75 (hT : TabC M c) (F1 : Fr S75 M M1) : TabC M1 c ∧ ∀ i, dC M1 i = dC M i := hT.fr F1 (by unfold S75; omega) (by unfold S75; omega) (by unfold S75; omega) (by unfold S75; omega) (by unfold S75; omega) (by unfold S75; omega) (by unfold S75; omega)
theorem c_isMarked (hW : Wd M) (hT : TabC M c) {P : Fm → Prop} (h : MkS M c s P) {v : Nat} (hv : v < 5200) : ((v < c ∧ P (dC M v)) → f_X1_isMarked n 2 (nI v) M = some (1, M)) ∧ (¬ (v < c ∧ P (dC M v)) → f_X1_isMarked n 2 (nI v) M = some (0, M)) := by
  have hc := hT.2.1
  have hn0 : (nI v < (0 : Int32)) = False := nI_lt0 (by omega)
  have ee : f_X1_isMarked n 2 (nI v) M = T_X1_isMarked_0 (fun v M => some (v, M)) none n 2 (nI v) M := rfl
  rw [ee]
  unfold T_X1_isMarked_0
  by_cases hvc : v < c
  · have hle : (nI c ≤ nI v) = False := eq_false (by rw [nI_le_ (by omega) (by omega)]; omega)
    have := h.2.2.2 v hvc
    refine ⟨fun q => ?_, fun q => ?_⟩
    · have q' : (M.2.2.1 8 v = nI s) = True := eq_true (this.mpr q.2)
      simp (disch := omega) only [hn0, ↓reduceIte, ↓gd_pos (fO_2 hW), hT.1, hle, ↓bnd_of (r_2_5 hW), ↓gd_pos (fA_8 hW hv), nI_z, h.2.1, q']
    · have q' : (M.2.2.1 8 v = nI s) = False := eq_false (fun g => q ⟨hvc, this.mp g⟩)
      simp (disch := omega) only [hn0, ↓reduceIte, ↓gd_pos (fO_2 hW), hT.1, hle, ↓bnd_of (r_2_5 hW), ↓gd_pos (fA_8 hW hv), nI_z, h.2.1, q']
  · have hle : (nI c ≤ nI v) = True := eq_true (by rw [nI_le_ (by omega) (by omega)]; omega)
    refine ⟨fun q => absurd q.1 hvc, fun _ => ?_⟩
    simp (disch := omega) only [hn0, ↓reduceIte, ↓gd_pos (fO_2 hW), hT.1, hle]
theorem c_spotOf (hW : Wd M) {x y : Int32} (h : (x = -1 ∧ y = -1) ∨ ∃ a, a < 5200 ∧ x = nI a ∧ M.2.2.1 75 a = y) : f_X5_spotOf (n + 1) 74 x M = some (y, M) := by
  have y1 : f_X10_at n 75 x M = some (y, M) := by
    rcases h with ⟨h1, h2⟩ | ⟨a, h1, h2, h3⟩
    · rw [h1, h2]; exact c_at_neg n (by decide)
    · rw [h2, ← h3]; exact c_atG hW n (by omega) (s_75 hW) h1 (by omega)
  show T_X5_spotOf_0 (fun v M => some (v, M)) none (n + 1) 74 x M = _
  unfold T_X5_spotOf_0
  simp only [↓gd_pos (fO74 hW), ↓bnd_of (r_74_1 hW), ↓bnd2_of (show cal (n + 1) (fun zz => f_X10_at zz 75 x M) = _ from y1)]
theorem SpV.sp (hW : Wd M) {x y : Int32} (h : SpV S x y) (h75 : ∀ a, S a → a < 5200 → x = nI a → M.2.2.1 75 a = nI (cP S a)) : f_X5_spotOf (n + 1) 74 x M = some (y, M) := by
  rcases h with h | ⟨a, h1, h2, h3, h4⟩
  · exact c_spotOf hW (Or.inl h)
  · exact c_spotOf hW (Or.inr ⟨a, h1, h3, by rw [h4]; exact h75 a h2 h1 h3⟩)
noncomputable abbrev lpC4 (n : Nat) (x : Int32) (v : Nat) (M : Mem) : Option (Unit × Mem) := lp (st_X5_collect (n + 1)) (40, [.ref 74, .int x, .int (nI v)], M)
set_option maxHeartbeats 2000000 in
theorem co_one (hW : Wd M) (hT : TabC M c) {P : Fm → Prop} (h : MkS M c s P) {v : Nat} (hv : v < c) (hPv : P (dC M v)) (hv5 : v < 5200) {i x : Nat} (hi : M.2.2.1 74 6 = nI i) (hi4 : i < 420) (hx : 0 < x) (hx2 : x < 6000) {y1 y2 : Int32} (e1 : ∀ {M' : Mem}, Wd M' → (∀ a, a ≠ v → M'.2.2.1 75 a = M.2.2.1 75 a) → f_X5_spotOf n 74 (M.2.2.1 4 v) M' = some (y1, M')) (e2 : ∀ {M' : Mem}, Wd M' → (∀ a, a ≠ v → M'.2.2.1 75 a = M.2.2.1 75 a) → f_X5_spotOf n 74 (M.2.2.1 5 v) M' = some (y2, M')) : lpC4 n (nI x) v M = lpC4 n (nI (x - 1)) (v + 1) (wI (wI (wI (wI (wI M 75 v (nI i)) 76 i (M.2.2.1 3 v)) 77 i y1) 78 i y2) 74 6 (nI (i + 1))) := by
  have hc := hT.2.1
  have k0 := (c_isMarked (n := n) hW hT h hv5).1 ⟨hv, hPv⟩
  obtain ⟨M1, hM1⟩ : ∃ M1, M1 = wI M 75 v (nI i) := ⟨_, rfl⟩
  obtain ⟨M2, hM2⟩ : ∃ M2, M2 = wI M1 76 i (M.2.2.1 3 v) := ⟨_, rfl⟩
  obtain ⟨M3, hM3⟩ : ∃ M3, M3 = wI M2 77 i y1 := ⟨_, rfl⟩
  obtain ⟨M4, hM4⟩ : ∃ M4, M4 = wI M3 78 i y2 := ⟨_, rfl⟩
  have F1 : Fr (fun a k => a = 75 ∧ k = v) M M1 := by rw [hM1]; exact Fr.refl.wI ⟨rfl, rfl⟩ _
  have F2 : Fr (fun a k => a = 76 ∧ k = i) M1 M2 := by rw [hM2]; exact Fr.refl.wI ⟨rfl, rfl⟩ _
  have F3 : Fr (fun a k => a = 77 ∧ k = i) M2 M3 := by rw [hM3]; exact Fr.refl.wI ⟨rfl, rfl⟩ _
  have F4 : Fr (fun a k => a = 78 ∧ k = i) M3 M4 := by rw [hM4]; exact Fr.refl.wI ⟨rfl, rfl⟩ _
  have G2 : Fr S75 M M2 := (F1.mono (fun a k q => by unfold S75; omega)).trans (F2.mono (fun a k q => by unfold S75; omega))
  have G3 : Fr S75 M M3 := G2.trans (F3.mono (fun a k q => by unfold S75; omega))
  have hW1 := F1.Wd hW
  have hW2 := F2.Wd hW1
  have hW3 := F3.Wd hW2
  have hW4 := F4.Wd hW3
  have T1 := (hT.s75 (F1.mono (fun a k q => by unfold S75; omega))).1
  have T2 := (hT.s75 G2).1
  have T3 := (hT.s75 G3).1
  have g1 : M1.2.2.1 74 6 = nI i := (F1.int (by omega)).trans hi
  have g2 : M2.2.2.1 74 6 = nI i := (F2.int (by omega)).trans g1
  have g3 : M3.2.2.1 74 6 = nI i := (F3.int (by omega)).trans g2
  have g4 : M4.2.2.1 74 6 = nI i := (F4.int (by omega)).trans g3
  have k1 := c_kindOf hW1 T1 n hv
  rw [F1.int (by omega)] at k1
  have k2 := c_leftOf hW2 T2 n hv
  rw [G2.int (by unfold S75; omega)] at k2
  have k3 := c_rightOf hW3 T3 n hv
  rw [G3.int (by unfold S75; omega)] at k3
  have s1 := e1 hW2 (fun a ha => (F2.int (by omega)).trans (F1.int (by omega)))
  have s2 := e2 hW3 (fun a ha => (F3.int (by omega)).trans ((F2.int (by omega)).trans (F1.int (by omega))))
  have f75 : fA M 75 1 (nI v) := fA_C hW (by omega) (s_75 hW) hv5 (by omega)
  have f76 : fA M1 76 1 (nI i) := fA_C hW1 (by omega) (s_76 hW1) hi4 (by omega)
  have f77 : fA M2 77 1 (nI i) := fA_C hW2 (by omega) (s_77 hW2) hi4 (by omega)
  have f78 : fA M3 78 1 (nI i) := fA_C hW3 (by omega) (s_78 hW3) hi4 (by omega)
  have h52 : ((5200 : Int32) ≤ nI v) = False := eq_false (by rw [show (5200 : Int32) = nI 5200 from rfl, nI_le_ (by omega) (by omega)]; omega)
  have hx0 : (nI x ≤ (0 : Int32)) = False := eq_false (by rw [show (0 : Int32) = nI 0 from rfl, nI_le_ (by omega) (by omega)]; omega)
  have h42 : ((420 : Int32) ≤ nI i) = False := eq_false (by rw [show (420 : Int32) = nI 420 from rfl, nI_le_ (by omega) (by omega)]; omega)
  have one : ((1 : Int32) = 0) = False := eq_false (by decide)
  have hxm : nI x + (-1) = nI (x - 1) := by
    obtain ⟨z, rfl⟩ : ∃ z, x = z + 1 := ⟨x - 1, by omega⟩
    rw [nI_m1, Nat.add_sub_cancel]
  obtain ⟨kd, hkd⟩ : ∃ kd, kd = M.2.2.1 3 v := ⟨_, rfl⟩
  obtain ⟨lf, hlf⟩ : ∃ lf, lf = M.2.2.1 4 v := ⟨_, rfl⟩
  obtain ⟨rt, hrt⟩ : ∃ rt, rt = M.2.2.1 5 v := ⟨_, rfl⟩
  rw [← hkd] at hM2 k1
  rw [← hlf] at k2 s1
  rw [← hrt] at k3 s2
  refine (ge_X5_collect_40 (n + 1) 74 (nI x) (nI v) M).trans ?_
  unfold T_X5_collect_40
  rw [← hkd, ← hM1, ← hM2, ← hM3, ← hM4]
  simp (disch := omega) only [h52, hx0, ↓reduceIte, ↓gd_pos (fO74 hW), hi, h42, ↓bnd_of (r_74_0 hW), ↓gd_pos (fO_2 hW), ↓bnd2_of (show cal (n + 1) (fun zz => f_X1_isMarked zz 2 (nI v) M) = _ from k0), one, ↓bnd_of (r_74_1 hW), ↓gd_pos f75, ↓bnd_of (r_74_2 hW), nI_z, up2_if, Nat.reduceEqDiff, false_and, if_false, ← hM1, bnd2_of (show cal (n + 1) (fun zz => f_X1_kindOf zz 2 (nI v) M1) = _ from k1), g1, gd_pos f76, gd_pos (fO74 hW1), bnd_of (r_74_3 hW1), bnd_of (r_74_0 hW1), gd_pos (fO_2 hW1), ← hM2, bnd2_of (show cal (n + 1) (fun zz => f_X1_leftOf zz 2 (nI v) M2) = _ from k2), g2, gd_pos (fO74 hW2), bnd2_of (show cal (n + 1) (fun zz => f_X5_spotOf zz 74 lf M2) = _ from s1), gd_pos f77, bnd_of (r_74_4 hW2), bnd_of (r_74_0 hW2), gd_pos (fO_2 hW2), ← hM3, bnd2_of (show cal (n + 1) (fun zz => f_X1_rightOf zz 2 (nI v) M3) = _ from k3), g3, gd_pos (fO74 hW3), bnd2_of (show cal (n + 1) (fun zz => f_X5_spotOf zz 74 rt M3) = _ from s2), gd_pos f78, ← hM4, g4, nI_1, hxm]
end CO7
