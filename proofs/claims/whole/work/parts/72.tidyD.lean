/-! TIDIES: the end -/
section TD
variable {M : Mem} {w : Nat}
theorem rnm_fr {S : Nat → Nat → Prop} {M1 : Mem} (hF : Fr S M M1) (h : ∀ k, ¬ S 95 k) (x : Int32) : rnm M1 x = rnm M x := by
  unfold rnm
  exact hF.int (h _)
theorem td_342 (hW : Wd M) (hw : w ≤ 16384) {mm : Nat → Nat} (hsl : ∀ s, s < 4 → mm s ≤ 200 ∧ M.2.2.1 104 s = nI (mm s) ∧ ∀ i, i < mm s → M.2.2.1 102 (200 * s + i) = 0 ∨ M.2.2.1 103 (200 * s + i) < 0 ∨ IxR w (M.2.2.1 103 (200 * s + i))) (k : Nat) : ∀ z s, s + z = 4 → ∀ M1, Fr (fun a j => a = 103 ∧ j < 200 * s) M M1 → (∀ t, t < s → ∀ u, u < mm t → M1.2.2.1 103 (200 * t + u) = rnA M (M.2.2.1 102 (200 * t + u)) (M.2.2.1 103 (200 * t + u))) → ∃ M2, lp (st_X11_tidies k) (342, [.ref 89, .int (nI s)], M1) = lp (st_X11_tidies k) (432, [.ref 89, .int (nI 0)], M2) ∧ Fr (fun a _ => a = 103) M M2 ∧ ∀ t, t < 4 → ∀ u, u < mm t → M2.2.2.1 103 (200 * t + u) = rnA M (M.2.2.1 102 (200 * t + u)) (M.2.2.1 103 (200 * t + u)) := by
  intro z
  induction z with
  | zero =>
    intro s hs M1 hF hu
    have e : s = 4 := by omega
    subst e
    refine ⟨M1, ?_, hF.mono (fun a j h => h.1), hu⟩
    refine (ge_X11_tidies_342 k 89 _ M1).trans ?_
    simp only [T_X11_tidies_342, show ((4 : Int32) ≤ nI 4) = True from eq_true (by decide), if_true]
    rfl
  | succ z ih =>
    intro s hs M1 hF hu
    have hW1 := hF.Wd hW
    obtain ⟨g1, g2, g3⟩ := hsl s (by omega)
    have h102 : ∀ i, M1.2.2.1 102 i = M.2.2.1 102 i := fun i => hF.int (by omega)
    have h103 : ∀ i, 200 * s ≤ i → M1.2.2.1 103 i = M.2.2.1 103 i := fun i hi => hF.int (by omega)
    obtain ⟨M2, x1, x2, x3⟩ := td_349 hW1 hw (s := s) (m := mm s) (by omega) g1 ((hF.int (by omega)).trans g2) (fun i hi => by rw [h102, h103 _ (by omega)]; exact g3 i hi) k (mm s) 0 (by omega) M1 Fr.refl (fun u h => by omega) (fun u _ => rfl)
    have F2 : Fr (fun a j => a = 103 ∧ j < 200 * (s + 1)) M M2 := (hF.mono (fun a j h => ⟨h.1, by omega⟩)).trans (x2.mono (fun a j h => ⟨h.1, by omega⟩))
    obtain ⟨M3, y1, y2⟩ := ih (s + 1) (by omega) M2 F2 (fun t ht u hu' => by
      have hmt := (hsl t (by omega)).1
      by_cases e : t = s
      · subst e
        rw [x3 u hu', h102, h103 _ (by omega)]
        unfold rnA
        rw [rnm_fr hF (by omega)]
      · rw [x2.int (by omega)]
        exact hu t (by omega) u hu')
    refine ⟨M3, ?_, y2⟩
    refine Eq.trans ?_ (x1.trans y1)
    refine (ge_X11_tidies_342 k 89 _ M1).trans ?_
    have l4 : ((4 : Int32) ≤ nI s) = False := eq_false (fun x => by have := (nI_leI (a := 4) (by omega) (by omega)).mp x; omega)
    simp only [T_X11_tidies_342, l4, if_false]
    rfl
theorem td_432 (hW : Wd M) (hw : w ≤ 16384) {m : Nat} (hm : m ≤ 400) (h24 : M.2.2.1 89 24 = nI m) (hR : ∀ i, i < m → M.2.2.1 105 i = 0 ∨ M.2.2.1 106 i < 0 ∨ IxR w (M.2.2.1 106 i)) (k : Nat) : ∀ z i, i + z = m → ∀ M1, Fr (fun a _ => a = 106) M M1 → (∀ u, u < i → M1.2.2.1 106 u = rnA M (M.2.2.1 105 u) (M.2.2.1 106 u)) → (∀ u, i ≤ u → M1.2.2.1 106 u = M.2.2.1 106 u) → ∃ M2, lp (st_X11_tidies k) (432, [.ref 89, .int (nI i)], M1) = some ((), M2) ∧ Fr (fun a _ => a = 106) M M2 ∧ ∀ u, u < m → M2.2.2.1 106 u = rnA M (M.2.2.1 105 u) (M.2.2.1 106 u) := by
  intro z
  induction z with
  | zero =>
    intro i hi M1 hF hu hv
    have hW1 := hF.Wd hW
    have e : i = m := by omega
    subst e
    have e24 : M1.2.2.1 89 24 = nI i := (hF.int (by omega)).trans h24
    refine ⟨M1, ?_, hF, hu⟩
    refine (ge_X11_tidies_432 k 89 _ M1).trans ?_
    simp (disch := omega) only [T_X11_tidies_432, W_89 hW1, gd_true, fO, Nat.reduceLT, and_self, e24, nI_le_, Nat.le_refl, if_true]
  | succ z ih =>
    intro i hi M1 hF hu hv
    have hW1 := hF.Wd hW
    have e24 : M1.2.2.1 89 24 = nI m := (hF.int (by omega)).trans h24
    have e105 : M1.2.2.1 105 i = M.2.2.1 105 i := hF.int (by omega)
    have e106 : M1.2.2.1 106 i = M.2.2.1 106 i := hv i (Nat.le_refl _)
    have v8 : vp_in (nI i) 400 := vp_nI (by omega) (by omega)
    by_cases q : M.2.2.1 105 i = 0 ∨ M.2.2.1 106 i < 0
    · have hr : rnA M (M.2.2.1 105 i) (M.2.2.1 106 i) = M.2.2.1 106 i := by
        unfold rnA
        by_cases q1 : M.2.2.1 105 i = 0
        · rw [if_pos q1]
        · rw [if_neg q1, if_pos (q.resolve_left q1)]
      obtain ⟨M2, y1, y2⟩ := ih (i + 1) (by omega) M1 hF (fun u h => by
        by_cases e : u = i
        · subst e
          rw [hr]
          exact e106
        · exact hu u (by omega)) (fun u h => hv u (by omega))
      refine ⟨M2, ?_, y2⟩
      rw [← y1]
      refine (ge_X11_tidies_432 k 89 _ M1).trans ?_
      simp (disch := omega) only [T_X11_tidies_432, W_89 hW1, gd_true, fO, fA, ex_in, Nat.reduceLT, true_and, and_self, bnd_s, nI_z, e24, nI_le_, nI_1, v8, e105, e106]
      rw [if_neg (by omega)]
      by_cases q1 : M.2.2.1 105 i = 0
      · rw [if_pos q1]
      · rw [if_neg q1, if_pos (q.resolve_left q1)]
    · have q1 : ¬ M.2.2.1 105 i = 0 := fun x => q (Or.inl x)
      have q2 : ¬ M.2.2.1 106 i < 0 := fun x => q (Or.inr x)
      obtain ⟨v, v1, v2⟩ : IxR w (M.2.2.1 106 i) := by
        rcases hR i (by omega) with x | x | x
        · exact (q1 x).elim
        · exact (q2 x).elim
        · exact x
      have e95 : M1.2.2.1 95 v = M.2.2.1 95 v := hF.int (by omega)
      have vv : vp_in (nI v) 16384 := vp_nI (by omega) (by omega)
      obtain ⟨M2, y1, y2⟩ := ih (i + 1) (by omega) (wI M1 106 i (M.2.2.1 95 v)) (hF.wI rfl _) (fun u h => by
        by_cases e : u = i
        · subst e
          unfold rnA rnm
          rw [if_neg q1, if_neg q2, v2, nI_z (by omega)]
          simp [up2_if]
        · simp only [up2_if, true_and, e, if_false]
          exact hu u (by omega)) (fun u h => by
        have ne : ¬ u = i := by omega
        simp only [up2_if, true_and, ne, if_false]
        exact hv u (by omega))
      refine ⟨M2, ?_, y2⟩
      rw [← y1]
      have lt0 : (nI v < 0) = False := nI_lt0 (by omega)
      refine (ge_X11_tidies_432 k 89 _ M1).trans ?_
      simp (disch := omega) only [T_X11_tidies_432, W_89 hW1, gd_true, fO, fA, ex_in, Nat.reduceLT, true_and, and_self, bnd_s, nI_z, e24, nI_le_, nI_1, v8, e105, e106, q1, if_false, v2, lt0, vv, e95]
      rw [if_neg (by omega)]
/-- a place behind tidies: the same formula, by its number now -/
def SmR (M M1 : Mem) (c c1 : Nat) (x y : Int32) : Prop := ∀ v, v < c → x = nI v → ∃ u, u < c1 ∧ y = nI u ∧ dR M1 u = dR M v
end TD
