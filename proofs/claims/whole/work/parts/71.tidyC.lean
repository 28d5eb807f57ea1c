/-! TIDIES: the new numbers take the places of the old -/
section TC
variable {M : Mem} {w : Nat}
def rnm (M : Mem) (x : Int32) : Int32 := M.2.2.1 95 x.toNatClampNeg
def IxR (w : Nat) (x : Int32) : Prop := ∃ v, v < w ∧ x = nI v
theorem td_296 (hW : Wd M) (hw : w ≤ 16384) {h : Nat} (h6 : h ≤ 6) (h15 : M.2.2.1 89 15 = nI h) (hR : ∀ j, j < h → IxR w (M.2.2.1 98 j)) (hG : IxR w (M.2.2.1 89 16)) (k : Nat) : ∀ z j, j + z = h → ∀ M1, Fr (fun a _ => a = 98) M M1 → (∀ u, u < j → M1.2.2.1 98 u = rnm M (M.2.2.1 98 u)) → (∀ u, j ≤ u → M1.2.2.1 98 u = M.2.2.1 98 u) → ∃ M2, lp (st_X11_tidies k) (296, [.ref 89, .int (nI j)], M1) = lp (st_X11_tidies k) (342, [.ref 89, .int (nI 0)], M2) ∧ Fr (fun a i => a = 98 ∨ (a = 89 ∧ i = 16)) M M2 ∧ (∀ u, u < h → M2.2.2.1 98 u = rnm M (M.2.2.1 98 u)) ∧ M2.2.2.1 89 16 = rnm M (M.2.2.1 89 16) := by
  intro z
  induction z with
  | zero =>
    intro j hj M1 hF hu hv
    have hW1 := hF.Wd hW
    have e : j = h := by omega
    subst e
    have e15 : M1.2.2.1 89 15 = nI j := (hF.int (by omega)).trans h15
    obtain ⟨v, v1, v2⟩ := hG
    have e16 : M1.2.2.1 89 16 = nI v := (hF.int (by omega)).trans v2
    have e95 : M1.2.2.1 95 v = M.2.2.1 95 v := hF.int (by omega)
    have vv : vp_in (nI v) 16384 := vp_nI (by omega) (by omega)
    refine ⟨wI M1 89 16 (M.2.2.1 95 v), ?_, (hF.mono (T := fun a i => a = 98 ∨ (a = 89 ∧ i = 16)) (fun a i h => Or.inl h)).wI (Or.inr ⟨rfl, rfl⟩) _, hu, ?_⟩
    · refine (ge_X11_tidies_296 k 89 _ M1).trans ?_
      simp (disch := omega) only [T_X11_tidies_296, W_89 hW1, gd_true, fO, fA, ex_in, Nat.reduceLT, true_and, and_self, bnd_s, e15, nI_le_, Nat.le_refl, if_true, e16, vv, nI_z, e95]
      rfl
    · unfold rnm
      rw [v2, nI_z (by omega)]
      rfl
  | succ z ih =>
    intro j hj M1 hF hu hv
    have hW1 := hF.Wd hW
    have e15 : M1.2.2.1 89 15 = nI h := (hF.int (by omega)).trans h15
    obtain ⟨v, v1, v2⟩ := hR j (by omega)
    have e98 : M1.2.2.1 98 j = nI v := (hv j (Nat.le_refl _)).trans v2
    have e95 : M1.2.2.1 95 v = M.2.2.1 95 v := hF.int (by omega)
    have vv : vp_in (nI v) 16384 := vp_nI (by omega) (by omega)
    have v6 : vp_in (nI j) 6 := vp_nI (by omega) (by omega)
    obtain ⟨M2, y1, y2⟩ := ih (j + 1) (by omega) (wI M1 98 j (M.2.2.1 95 v)) (hF.wI rfl _) (fun u h => by
      by_cases e : u = j
      · subst e
        unfold rnm
        rw [v2, nI_z (by omega)]
        simp [up2_if]
      · simp only [up2_if, true_and, e, if_false]
        exact hu u (by omega)) (fun u h => by
      have e : ¬ u = j := by omega
      simp only [up2_if, true_and, e, if_false]
      exact hv u (by omega))
    refine ⟨M2, ?_, y2⟩
    rw [← y1]
    refine (ge_X11_tidies_296 k 89 _ M1).trans ?_
    simp (disch := omega) only [T_X11_tidies_296, W_89 hW1, gd_true, fO, fA, ex_in, Nat.reduceLT, true_and, and_self, bnd_s, e15, nI_le_, v6, nI_z, e98, vv, e95, nI_1]
    rw [if_neg (by omega)]
/-- what a place becomes: new where it is a formula's, else as it was -/
def rnA (M : Mem) (kd x : Int32) : Int32 := if kd = 0 then x else if x < 0 then x else rnm M x
theorem td_349 (hW : Wd M) (hw : w ≤ 16384) {s m : Nat} (hs : s < 4) (hm : m ≤ 200) (h104 : M.2.2.1 104 s = nI m) (hR : ∀ i, i < m → M.2.2.1 102 (200 * s + i) = 0 ∨ M.2.2.1 103 (200 * s + i) < 0 ∨ IxR w (M.2.2.1 103 (200 * s + i))) (k : Nat) : ∀ z i, i + z = m → ∀ M1, Fr (fun a j => a = 103 ∧ 200 * s ≤ j ∧ j < 200 * s + 200) M M1 → (∀ u, u < i → M1.2.2.1 103 (200 * s + u) = rnA M (M.2.2.1 102 (200 * s + u)) (M.2.2.1 103 (200 * s + u))) → (∀ u, i ≤ u → M1.2.2.1 103 (200 * s + u) = M.2.2.1 103 (200 * s + u)) → ∃ M2, lp (st_X11_tidies k) (349, [.ref 89, .int (nI s), .int (nI i)], M1) = lp (st_X11_tidies k) (342, [.ref 89, .int (nI (s + 1))], M2) ∧ Fr (fun a j => a = 103 ∧ 200 * s ≤ j ∧ j < 200 * s + 200) M M2 ∧ ∀ u, u < m → M2.2.2.1 103 (200 * s + u) = rnA M (M.2.2.1 102 (200 * s + u)) (M.2.2.1 103 (200 * s + u)) := by
  intro z
  induction z with
  | zero =>
    intro i hi M1 hF hu hv
    have hW1 := hF.Wd hW
    have e : i = m := by omega
    subst e
    have e104 : M1.2.2.1 104 s = nI i := (hF.int (by omega)).trans h104
    have v4 : vp_in (nI s) 4 := vp_nI hs (by omega)
    refine ⟨M1, ?_, hF, hu⟩
    refine (ge_X11_tidies_349 k 89 _ _ M1).trans ?_
    simp (disch := omega) only [T_X11_tidies_349, W_89 hW1, gd_true, fO, fA, ex_in, Nat.reduceLT, true_and, and_self, bnd_s, v4, nI_z, e104, nI_le_, Nat.le_refl, if_true, nI_1]
  | succ z ih =>
    intro i hi M1 hF hu hv
    have hW1 := hF.Wd hW
    have e104 : M1.2.2.1 104 s = nI m := (hF.int (by omega)).trans h104
    have e102 : M1.2.2.1 102 (200 * s + i) = M.2.2.1 102 (200 * s + i) := hF.int (by omega)
    have e103 : M1.2.2.1 103 (200 * s + i) = M.2.2.1 103 (200 * s + i) := hv i (Nat.le_refl _)
    have v4 : vp_in (nI s) 4 := vp_nI hs (by omega)
    have v8 : vp_in (nI (200 * s + i)) 800 := vp_nI (by omega) (by omega)
    by_cases q : M.2.2.1 102 (200 * s + i) = 0 ∨ M.2.2.1 103 (200 * s + i) < 0
    · have hr : rnA M (M.2.2.1 102 (200 * s + i)) (M.2.2.1 103 (200 * s + i)) = M.2.2.1 103 (200 * s + i) := by
        unfold rnA
        by_cases q1 : M.2.2.1 102 (200 * s + i) = 0
        · rw [if_pos q1]
        · rw [if_neg q1, if_pos (q.resolve_left q1)]
      obtain ⟨M2, y1, y2⟩ := ih (i + 1) (by omega) M1 hF (fun u h => by
        by_cases e : u = i
        · subst e
          rw [hr]
          exact e103
        · exact hu u (by omega)) (fun u h => hv u (by omega))
      refine ⟨M2, ?_, y2⟩
      rw [← y1]
      refine (ge_X11_tidies_349 k 89 _ _ M1).trans ?_
      simp (disch := omega) only [T_X11_tidies_349, W_89 hW1, gd_true, fO, fA, ex_in, Nat.reduceLT, true_and, and_self, bnd_s, v4, nI_z, e104, nI_le_, nI_1, e200, v8, e102, e103]
      rw [if_neg (by omega)]
      by_cases q1 : M.2.2.1 102 (200 * s + i) = 0
      · rw [if_pos q1]
      · rw [if_neg q1, if_pos (q.resolve_left q1)]
    · have q1 : ¬ M.2.2.1 102 (200 * s + i) = 0 := fun x => q (Or.inl x)
      have q2 : ¬ M.2.2.1 103 (200 * s + i) < 0 := fun x => q (Or.inr x)
      obtain ⟨v, v1, v2⟩ : IxR w (M.2.2.1 103 (200 * s + i)) := by
        rcases hR i (by omega) with x | x | x
        · exact (q1 x).elim
        · exact (q2 x).elim
        · exact x
      have e95 : M1.2.2.1 95 v = M.2.2.1 95 v := hF.int (by omega)
      have vv : vp_in (nI v) 16384 := vp_nI (by omega) (by omega)
      obtain ⟨M2, y1, y2⟩ := ih (i + 1) (by omega) (wI M1 103 (200 * s + i) (M.2.2.1 95 v)) (hF.wI ⟨rfl, by omega, by omega⟩ _) (fun u h => by
        by_cases e : u = i
        · subst e
          unfold rnA rnm
          rw [if_neg q1, if_neg q2, v2, nI_z (by omega)]
          simp [up2_if]
        · have ne : ¬ 200 * s + u = 200 * s + i := by omega
          simp only [up2_if, true_and, ne, if_false]
          exact hu u (by omega)) (fun u h => by
        have ne : ¬ 200 * s + u = 200 * s + i := by omega
        simp only [up2_if, true_and, ne, if_false]
        exact hv u (by omega))
      refine ⟨M2, ?_, y2⟩
      rw [← y1]
      have lt0 : (nI v < 0) = False := nI_lt0 (by omega)
      refine (ge_X11_tidies_349 k 89 _ _ M1).trans ?_
      simp (disch := omega) only [T_X11_tidies_349, W_89 hW1, gd_true, fO, fA, ex_in, Nat.reduceLT, true_and, and_self, bnd_s, v4, nI_z, e104, nI_le_, nI_1, e200, v8, e102, e103, q1, if_false, v2, lt0, vv, e95]
      rw [if_neg (by omega)]
end TC
