/-! TIDIES: the slots' and the worked row's formulas marked -/
section TB2
variable {M : Mem} {c D : Nat} {S : Nat → Prop}
theorem e200 (s i : Nat) : (200 : Int32) * nI s + nI i = nI (200 * s + i) := by
  rw [show (200 : Int32) = nI 200 from rfl, ← nI_add]
  congr 1
  exact (Int32.ofNat_mul 200 s).symm
theorem td_84 (hW : Wd M) (hT : TbI c (M.2.2.1 90) (M.2.2.1 91) (M.2.2.1 92)) (hc : c ≤ 16384) (hS : ∀ i, i < c → S i → ∀ a, a < 20000 → (M.2.2.1 91 i = nI a ∨ M.2.2.1 92 i = nI a) → S a) {s m : Nat} (hs : s < 4) (hm : m ≤ 200) (h104 : M.2.2.1 104 s = nI m) (hR : ∀ i, i < m → M.2.2.1 102 (200 * s + i) = 0 ∨ M.2.2.1 103 (200 * s + i) < 0 ∨ NbR M c D (M.2.2.1 103 (200 * s + i))) (hRS : ∀ i, i < m → ∀ v, v < c → ¬ M.2.2.1 102 (200 * s + i) = 0 → M.2.2.1 103 (200 * s + i) = nI v → S v) (k : Nat) : ∀ z i, i + z = m → ∀ M1, MkO c S M M1 → ∃ M2, lp (st_X11_tidies (D + 3 + k)) (84, [.ref 89, .int (nI s), .int (nI i)], M1) = lp (st_X11_tidies (D + 3 + k)) (77, [.ref 89, .int (nI (s + 1))], M2) ∧ MkO c S M M2 ∧ (∀ u, M1.2.2.1 95 u ≠ -1 → M2.2.2.1 95 u ≠ -1) ∧ ∀ u, i ≤ u → u < m → ¬ M.2.2.1 102 (200 * s + u) = 0 → ∀ v, v < c → M.2.2.1 103 (200 * s + u) = nI v → M2.2.2.1 95 v ≠ -1 := by
  intro z
  induction z with
  | zero =>
    intro i hi M1 hO
    have hW1 := hO.1.Wd hW
    have e104 : M1.2.2.1 104 s = nI m := (hO.1.int (by simp [S95])).trans h104
    have v4 : vp_in (nI s) 4 := vp_nI hs (by omega)
    refine ⟨M1, ?_, hO, fun _ h => h, fun u h1 h2 => by omega⟩
    refine (ge_X11_tidies_84 _ 89 _ _ M1).trans ?_
    simp (disch := omega) only [T_X11_tidies_84, W_89 hW1, gd_true, fO, fA, ex_in, Nat.reduceLT, true_and, and_self, bnd_s, v4, nI_z, e104, nI_le_, nI_1]
    rw [if_pos (by omega)]
  | succ z ih =>
    intro i hi M1 hO
    have hW1 := hO.1.Wd hW
    have e104 : M1.2.2.1 104 s = nI m := (hO.1.int (by simp [S95])).trans h104
    have e102 : M1.2.2.1 102 (200 * s + i) = M.2.2.1 102 (200 * s + i) := hO.1.int (by simp [S95])
    have e103 : M1.2.2.1 103 (200 * s + i) = M.2.2.1 103 (200 * s + i) := hO.1.int (by simp [S95])
    have v4 : vp_in (nI s) 4 := vp_nI hs (by omega)
    have v8 : vp_in (nI (200 * s + i)) 800 := vp_nI (by omega) (by omega)
    have hd : lp (st_X11_tidies (D + 3 + k)) (84, [.ref 89, .int (nI s), .int (nI i)], M1) = if M.2.2.1 102 (200 * s + i) = 0 then lp (st_X11_tidies (D + 3 + k)) (84, [.ref 89, .int (nI s), .int (nI (i + 1))], M1) else if M.2.2.1 103 (200 * s + i) < 0 then lp (st_X11_tidies (D + 3 + k)) (84, [.ref 89, .int (nI s), .int (nI (i + 1))], M1) else bnd2 (f_X11_marks (D + 2 + k) 89 (M.2.2.1 103 (200 * s + i)) M1) none (fun _ M24 => lp (st_X11_tidies (D + 3 + k)) (84, [.ref 89, .int (nI s), .int (nI (i + 1))], M24)) := by
      rw [show D + 3 + k = (D + 2 + k) + 1 by omega]
      refine (ge_X11_tidies_84 (D + 2 + k + 1) 89 _ _ M1).trans ?_
      simp (disch := omega) only [T_X11_tidies_84, W_89 hW1, gd_true, fO, fA, ex_in, Nat.reduceLT, true_and, and_self, bnd_s, v4, nI_z, e104, nI_le_, nI_1, e200, v8, e102, e103, cal_s]
      rw [if_neg (by omega)]
    by_cases q1 : M.2.2.1 102 (200 * s + i) = 0
    · obtain ⟨M2, y1, y2, y3, y4⟩ := ih (i + 1) (by omega) M1 hO
      refine ⟨M2, by rw [hd, if_pos q1]; exact y1, y2, y3, fun u h1 h2 h3 => ?_⟩
      by_cases e : u = i
      · subst e
        exact (h3 q1).elim
      · exact y4 u (by omega) h2 h3
    · by_cases q2 : M.2.2.1 103 (200 * s + i) < 0
      · obtain ⟨M2, y1, y2, y3, y4⟩ := ih (i + 1) (by omega) M1 hO
        refine ⟨M2, by rw [hd, if_neg q1, if_pos q2]; exact y1, y2, y3, fun u h1 h2 h3 => ?_⟩
        by_cases e : u = i
        · subst e
          intro v hv ev
          rw [ev] at q2
          exact (nI_pos (by omega) q2).elim
        · exact y4 u (by omega) h2 h3
      · have hnb : NbR M c D (M.2.2.1 103 (200 * s + i)) := by
          rcases hR i (by omega) with h | h | h
          · exact (q1 h).elim
          · exact (q2 h).elim
          · exact h
        obtain ⟨M2, x1, x2, x3, x4⟩ := mark_root hW hT hc hS hO k hnb (fun v hv ev => hRS i (by omega) v hv q1 ev)
        obtain ⟨M3, y1, y2, y3, y4⟩ := ih (i + 1) (by omega) M2 x2
        refine ⟨M3, by rw [hd, if_neg q1, if_neg q2, x1, bnd2_s]; exact y1, y2, fun u hu => y3 u (x3 u hu), fun u h1 h2 h3 => ?_⟩
        by_cases e : u = i
        · subst e
          exact fun v hv ev => y3 v (x4 v hv ev)
        · exact y4 u (by omega) h2 h3
theorem td_77 (hW : Wd M) (hT : TbI c (M.2.2.1 90) (M.2.2.1 91) (M.2.2.1 92)) (hc : c ≤ 16384) (hS : ∀ i, i < c → S i → ∀ a, a < 20000 → (M.2.2.1 91 i = nI a ∨ M.2.2.1 92 i = nI a) → S a) {mm : Nat → Nat} (hsl : ∀ s, s < 4 → mm s ≤ 200 ∧ M.2.2.1 104 s = nI (mm s) ∧ ∀ i, i < mm s → M.2.2.1 102 (200 * s + i) = 0 ∨ M.2.2.1 103 (200 * s + i) < 0 ∨ NbR M c D (M.2.2.1 103 (200 * s + i))) (hRS : ∀ s, s < 4 → ∀ i, i < mm s → ∀ v, v < c → ¬ M.2.2.1 102 (200 * s + i) = 0 → M.2.2.1 103 (200 * s + i) = nI v → S v) (k : Nat) : ∀ z s, s + z = 4 → ∀ M1, MkO c S M M1 → ∃ M2, lp (st_X11_tidies (D + 3 + k)) (77, [.ref 89, .int (nI s)], M1) = lp (st_X11_tidies (D + 3 + k)) (154, [.ref 89, .int (nI 0)], M2) ∧ MkO c S M M2 ∧ (∀ u, M1.2.2.1 95 u ≠ -1 → M2.2.2.1 95 u ≠ -1) ∧ ∀ t, s ≤ t → t < 4 → ∀ u, u < mm t → ¬ M.2.2.1 102 (200 * t + u) = 0 → ∀ v, v < c → M.2.2.1 103 (200 * t + u) = nI v → M2.2.2.1 95 v ≠ -1 := by
  intro z
  induction z with
  | zero =>
    intro s hs M1 hO
    have e : s = 4 := by omega
    subst e
    refine ⟨M1, ?_, hO, fun _ h => h, fun t h1 h2 => by omega⟩
    refine (ge_X11_tidies_77 _ 89 _ M1).trans ?_
    simp only [T_X11_tidies_77, show ((4 : Int32) ≤ nI 4) = True from eq_true (by decide), if_true]
    rfl
  | succ z ih =>
    intro s hs M1 hO
    obtain ⟨g1, g2, g3⟩ := hsl s (by omega)
    obtain ⟨M2, x1, x2, x3, x4⟩ := td_84 hW hT hc hS (s := s) (by omega) g1 g2 g3 (hRS s (by omega)) k (mm s) 0 (by omega) M1 hO
    obtain ⟨M3, y1, y2, y3, y4⟩ := ih (s + 1) (by omega) M2 x2
    refine ⟨M3, ?_, y2, fun u hu => y3 u (x3 u hu), fun t h1 h2 u hu h3 v hv ev => ?_⟩
    · refine Eq.trans ?_ (x1.trans y1)
      refine (ge_X11_tidies_77 _ 89 _ M1).trans ?_
      have l4 : ((4 : Int32) ≤ nI s) = False := eq_false (fun x => by have := (nI_leI (a := 4) (by omega) (by omega)).mp x; omega)
      simp only [T_X11_tidies_77, l4, if_false]
      rfl
    · by_cases e : t = s
      · subst e
        exact y3 v (x4 u (Nat.zero_le _) hu h3 v hv ev)
      · exact y4 t (by omega) h2 u hu h3 v hv ev
theorem td_154 (hW : Wd M) (hT : TbI c (M.2.2.1 90) (M.2.2.1 91) (M.2.2.1 92)) (hc : c ≤ 16384) (h7 : M.2.2.1 89 7 = nI c) (hS : ∀ i, i < c → S i → ∀ a, a < 20000 → (M.2.2.1 91 i = nI a ∨ M.2.2.1 92 i = nI a) → S a) {m : Nat} (hm : m ≤ 400) (h24 : M.2.2.1 89 24 = nI m) (hR : ∀ i, i < m → M.2.2.1 105 i = 0 ∨ M.2.2.1 106 i < 0 ∨ NbR M c D (M.2.2.1 106 i)) (hRS : ∀ i, i < m → ∀ v, v < c → ¬ M.2.2.1 105 i = 0 → M.2.2.1 106 i = nI v → S v) (k : Nat) : ∀ z i, i + z = m → ∀ M1, MkO c S M M1 → ∃ M2 M3, lp (st_X11_tidies (D + 3 + k)) (154, [.ref 89, .int (nI i)], M1) = lp (st_X11_tidies (D + 3 + k)) (207, [.ref 89, .int (nI c), .int (nI 0)], M3) ∧ MkO c S M M2 ∧ Fr SCl M2 M3 ∧ TabR M3 0 ∧ (∀ u, M1.2.2.1 95 u ≠ -1 → M2.2.2.1 95 u ≠ -1) ∧ ∀ u, i ≤ u → u < m → ¬ M.2.2.1 105 u = 0 → ∀ v, v < c → M.2.2.1 106 u = nI v → M2.2.2.1 95 v ≠ -1 := by
  intro z
  induction z with
  | zero =>
    intro i hi M1 hO
    have hW1 := hO.1.Wd hW
    have e24 : M1.2.2.1 89 24 = nI m := (hO.1.int (by simp [S95])).trans h24
    have e7 : M1.2.2.1 89 7 = nI c := (hO.1.int (by simp [S95])).trans h7
    obtain ⟨M3, x1, x2, x3⟩ := rx_clears hW1 (D + 2 + k)
    refine ⟨M1, M3, ?_, hO, x2, x3, fun _ h => h, fun u h1 h2 => by omega⟩
    rw [show D + 3 + k = (D + 2 + k) + 1 by omega]
    refine (ge_X11_tidies_154 (D + 2 + k + 1) 89 _ M1).trans ?_
    simp (disch := omega) only [T_X11_tidies_154, W_89 hW1, gd_true, fO, Nat.reduceLT, and_self, e24, nI_le_, cal_s, x1, bnd2_s, e7]
    rw [if_pos (by omega)]
    rfl
  | succ z ih =>
    intro i hi M1 hO
    have hW1 := hO.1.Wd hW
    have e24 : M1.2.2.1 89 24 = nI m := (hO.1.int (by simp [S95])).trans h24
    have e105 : M1.2.2.1 105 i = M.2.2.1 105 i := hO.1.int (by simp [S95])
    have e106 : M1.2.2.1 106 i = M.2.2.1 106 i := hO.1.int (by simp [S95])
    have v4 : vp_in (nI i) 400 := vp_nI (by omega) (by omega)
    have hd : lp (st_X11_tidies (D + 3 + k)) (154, [.ref 89, .int (nI i)], M1) = if M.2.2.1 105 i = 0 then lp (st_X11_tidies (D + 3 + k)) (154, [.ref 89, .int (nI (i + 1))], M1) else if M.2.2.1 106 i < 0 then lp (st_X11_tidies (D + 3 + k)) (154, [.ref 89, .int (nI (i + 1))], M1) else bnd2 (f_X11_marks (D + 2 + k) 89 (M.2.2.1 106 i) M1) none (fun _ M24 => lp (st_X11_tidies (D + 3 + k)) (154, [.ref 89, .int (nI (i + 1))], M24)) := by
      rw [show D + 3 + k = (D + 2 + k) + 1 by omega]
      refine (ge_X11_tidies_154 (D + 2 + k + 1) 89 _ M1).trans ?_
      simp (disch := omega) only [T_X11_tidies_154, W_89 hW1, gd_true, fO, fA, ex_in, Nat.reduceLT, true_and, and_self, bnd_s, v4, nI_z, e24, nI_le_, nI_1, e105, e106, cal_s]
      rw [if_neg (by omega)]
    by_cases q1 : M.2.2.1 105 i = 0
    · obtain ⟨M2, M3, y1, y2, y3, y4, y5, y6⟩ := ih (i + 1) (by omega) M1 hO
      refine ⟨M2, M3, by rw [hd, if_pos q1]; exact y1, y2, y3, y4, y5, fun u h1 h2 h3 => ?_⟩
      by_cases e : u = i
      · subst e
        exact (h3 q1).elim
      · exact y6 u (by omega) h2 h3
    · by_cases q2 : M.2.2.1 106 i < 0
      · obtain ⟨M2, M3, y1, y2, y3, y4, y5, y6⟩ := ih (i + 1) (by omega) M1 hO
        refine ⟨M2, M3, by rw [hd, if_neg q1, if_pos q2]; exact y1, y2, y3, y4, y5, fun u h1 h2 h3 => ?_⟩
        by_cases e : u = i
        · subst e
          intro v hv ev
          rw [ev] at q2
          exact (nI_pos (by omega) q2).elim
        · exact y6 u (by omega) h2 h3
      · have hnb : NbR M c D (M.2.2.1 106 i) := by
          rcases hR i (by omega) with h | h | h
          · exact (q1 h).elim
          · exact (q2 h).elim
          · exact h
        obtain ⟨M2, x1, x2, x3, x4⟩ := mark_root hW hT hc hS hO k hnb (fun v hv ev => hRS i (by omega) v hv q1 ev)
        obtain ⟨M3, M4, y1, y2, y3, y4, y5, y6⟩ := ih (i + 1) (by omega) M2 x2
        refine ⟨M3, M4, by rw [hd, if_neg q1, if_neg q2, x1, bnd2_s]; exact y1, y2, y3, y4, fun u hu => y5 u (x3 u hu), fun u h1 h2 h3 => ?_⟩
        by_cases e : u = i
        · subst e
          exact fun v hv ev => y5 v (x4 v hv ev)
        · exact y6 u (by omega) h2 h3
end TB2
