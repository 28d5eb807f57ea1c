/-! PROOF in the reference: proves, stores -/
section RST
variable {M : Mem} {b : Nat → Nat} {c n : Nat} {H : List (Nat × Fm)}
theorem rx_provesT {t : Tm} {pls : List Nat} {q : Nat} (ht : isT t) (h : RrS M c b n H [] (rws t) pls q) (hsc : scp t 0) (hsh : shp H.length t) (hl : sz t ≤ 120) (hc : c + 120 ≤ 16384) (k : Nat) (G : Nat → Fm) : ∃ v c1 M1, f_X11_proves (k + 244) 89 M = some (v, M1) ∧ AqB (wI M 89 43 0) c M1 c1 0 (sz t) 0 (sz t) ∧ ((∃ e, e < sz t ∧ ty (hF H) t 0 G 0 = .inl e ∧ M1.2.2.1 89 30 = 5 ∧ M1.2.2.1 89 31 = M.2.2.1 110 e) ∨ ∃ x u, ty (hF H) t 0 G 0 = .inr x ∧ v = nI u ∧ u < c1 ∧ dR M1 u = x ∧ M1.2.2.1 89 30 = 0 ∧ M1.2.2.1 89 31 = -1 ∧ Wt (TyR M1 c1) H.length (hF H) t 0 G 0 x) := by
  obtain ⟨hW, hX, hT, hH, hR, hPc, hS, hp, h30, h31⟩ := h
  have hWa : Wd (wI M 89 43 0) := hW.wI _ _ _
  have hI : AqI (wI M 89 43 0) c (rws t) H 0 (fun _ => False) t 0 0 G := ⟨hWa, hT, ⟨hR.1, by rw [rws_len]; omega, hR.2.1⟩, hH.s, Sb.self, hsc, hsh, Nat.le_refl _, by simp [up2_if]; rfl, h30, fun j hj => by omega, Or.inl (by omega)⟩
  obtain ⟨v, c1, M1, e1, B1, -, res⟩ := rq_main (l := rws t) (Hl := H) (c0 := 0) (CI := fun _ => False) (fun M c _ hN => by
    rcases Nat.eq_zero_or_pos c with q | q
    · omega
    · exact (hN 0 (Nat.le_refl _) q).elim) t ht (n := k + 243) (by omega) hI
  rw [Nat.zero_add] at B1
  refine ⟨v, c1, M1, ?_, B1, ?_⟩
  · obtain ⟨m, hm⟩ : ∃ m, m = k + 243 := ⟨_, rfl⟩
    rw [← hm] at e1
    rw [show k + 244 = m + 1 by omega]
    have e1 : f_X11_asks m 89 0 (wI M 89 43 0) = some (v, M1) := e1
    show T_X11_proves_0 _ _ (m + 1) 89 M = _
    unfold T_X11_proves_0
    simp only [W_89 hW, gd_true, fO, Nat.reduceLT, and_self, cal_s, bnd2_s, e1]
  · rcases res with ⟨e, h1, h2, h3, h4⟩ | ⟨x, u, h1, h2, h3, h4, h5, h6, -, h8, -⟩
    · exact Or.inl ⟨e, by rw [rws_len] at h1; exact h1, h2, h3, h4⟩
    · exact Or.inr ⟨x, u, h1, h2, h3, h4, h5, h6.trans h31, h8⟩
def SSt (s m a k : Nat) : Prop := (a = 104 ∧ k = s) ∨ ((a = 102 ∨ a = 103) ∧ 200 * s ≤ k ∧ k < 200 * s + m)
theorem st_loop (hW : Wd M) {s m : Nat} (hs : s < 4) (hm : m ≤ 200) (h24 : M.2.2.1 89 24 = nI m) (k : Nat) : ∀ z j, j + z = m → ∀ M1, Fr (SSt s m) M M1 → (∀ u, u < j → M1.2.2.1 102 (200 * s + u) = M.2.2.1 105 u ∧ M1.2.2.1 103 (200 * s + u) = M.2.2.1 106 u) → ∃ M2, lp (st_X11_stores k) (12, [.ref 89, .int (nI s), .int (nI j)], M1) = some ((), M2) ∧ Fr (SSt s m) M M2 ∧ M2.2.2.1 104 = M1.2.2.1 104 ∧ ∀ u, u < m → M2.2.2.1 102 (200 * s + u) = M.2.2.1 105 u ∧ M2.2.2.1 103 (200 * s + u) = M.2.2.1 106 u := by
  intro z
  induction z with
  | zero =>
    intro j hj M1 hF hu
    have e : j = m := by omega
    subst e
    have hW1 := hF.Wd hW
    have h24' : M1.2.2.1 89 24 = nI j := (hF.int (by unfold SSt; omega)).trans h24
    refine ⟨M1, ?_, hF, rfl, hu⟩
    refine (ge_X11_stores_12 k 89 _ _ M1).trans ?_
    simp (disch := omega) only [T_X11_stores_12, W_89 hW1, gd_true, fO, Nat.reduceLT, and_self, h24', nI_le_]
    rw [if_pos (by omega)]
  | succ z ih =>
    intro j hj M1 hF hu
    have hW1 := hF.Wd hW
    have h24' : M1.2.2.1 89 24 = nI m := (hF.int (by unfold SSt; omega)).trans h24
    have h105 : M1.2.2.1 105 j = M.2.2.1 105 j := hF.int (by unfold SSt; omega)
    have h106 : M1.2.2.1 106 j = M.2.2.1 106 j := hF.int (by unfold SSt; omega)
    obtain ⟨M2, e2, r1, r2, r3⟩ := ih (j + 1) (by omega) (wI (wI M1 102 (200 * s + j) (M.2.2.1 105 j)) 103 (200 * s + j) (M.2.2.1 106 j)) ((hF.wI (by unfold SSt; omega) _).wI (by unfold SSt; omega) _) (fun u h => by
      by_cases e : u = j
      · subst e
        simp [up2_if]
      · have e' : ¬ 200 * s + u = 200 * s + j := by omega
        simp only [up2_if, true_and, e', if_false, Nat.reduceEqDiff, false_and]
        exact hu u (by omega))
    refine ⟨M2, ?_, r1, r2.trans (by funext i; simp [up2_if]), r3⟩
    rw [← e2]
    have v4 : vp_in (nI j) 400 := vp_nI (by omega) (by omega)
    have v8 : vp_in (nI (200 * s + j)) 800 := vp_nI (by omega) (by omega)
    refine (ge_X11_stores_12 k 89 _ _ M1).trans ?_
    simp (disch := omega) only [T_X11_stores_12, W_89 hW1, gd_true, fO, fA, ex_in, Nat.reduceLT, true_and, and_self, bnd_s, h24', nI_le_, e200, v4, v8, nI_z, nI_1, up2_if, Nat.reduceEqDiff, false_and, if_false, h105, h106]
    rw [if_neg (by omega)]
theorem rx_stores (hW : Wd M) {s m : Nat} (hs : s < 4) (hm : m ≤ 200) (h24 : M.2.2.1 89 24 = nI m) (k : Nat) : ∃ M2, f_X11_stores k 89 (nI s) M = some ((), M2) ∧ Fr (SSt s m) M M2 ∧ M2.2.2.1 104 s = nI m ∧ ∀ u, u < m → M2.2.2.1 102 (200 * s + u) = M.2.2.1 105 u ∧ M2.2.2.1 103 (200 * s + u) = M.2.2.1 106 u := by
  obtain ⟨M2, e, r1, r2, r3⟩ := st_loop hW hs hm h24 k m 0 (by omega) (wI M 104 s (nI m)) (Fr.refl.wI (Or.inl ⟨rfl, rfl⟩) _) (fun u h => by omega)
  refine ⟨M2, ?_, r1, by rw [r2]; simp [up2_if], r3⟩
  rw [← e]
  have v4 : vp_in (nI s) 4 := vp_nI hs (by omega)
  refine (ge_X11_stores_0 k 89 _ M).trans ?_
  simp (disch := omega) only [T_X11_stores_0, W_89 hW, gd_true, fO, fA, ex_in, Nat.reduceLT, true_and, and_self, bnd_s, v4, nI_z, h24]
  rfl
end RST
