/-! ONE HYPOTHESIS READ, in the reference -/
def HyR (M : Mem) (cn aN aL aS c : Nat) (H : List (Nat × Fm)) : Prop := M.2.2.1 89 cn = nI H.length ∧ H.length ≤ 6 ∧ ∀ j, (hj : j < H.length) → NmR M aN aL j H[j].1 ∧ ∃ v, v < c ∧ M.2.2.1 aS j = nI v ∧ dR M v = H[j].2
def SRh (a k : Nat) : Prop := SRR a k ∨ a = 99 ∨ a = 100 ∨ a = 101 ∨ (a = 89 ∧ k = 35)
theorem SRR_SRh : ∀ a k, SRR a k → SRh a k := fun _ _ h => Or.inl h
theorem SP_SRh : ∀ a k, SP a k → SRh a k := fun a k h => Or.inl (SP_SRR a k h)
theorem NmR.fr {M M1 : Mem} {a l j nm : Nat} (h : NmR M a l j nm) (h1 : M1.2.2.1 a = M.2.2.1 a) (h2 : M1.2.2.1 l = M.2.2.1 l) : NmR M1 a l j nm := by
  obtain ⟨f, c, x, y, z, w⟩ := h
  exact ⟨f, c, x, y, by rw [h2]; exact z, fun i hi => by rw [h1]; exact w i hi⟩
theorem HyR.fr {M M1 : Mem} {cn aN aL aS c c1 : Nat} {H : List (Nat × Fm)} (h : HyR M cn aN aL aS c H) (h0 : M1.2.2.1 89 cn = M.2.2.1 89 cn) (h1 : M1.2.2.1 aN = M.2.2.1 aN) (h2 : M1.2.2.1 aL = M.2.2.1 aL) (h3 : M1.2.2.1 aS = M.2.2.1 aS) (hc : c ≤ c1) (hd : ∀ i, i < c → dR M1 i = dR M i) : HyR M1 cn aN aL aS c1 H := by
  refine ⟨h0.trans h.1, h.2.1, fun j hj => ?_⟩
  obtain ⟨g, v, g1, g2, g3⟩ := h.2.2 j hj
  exact ⟨g.fr h1 h2, v, by omega, by rw [h3]; exact g2, by rw [hd v g1]; exact g3⟩
section RHy
variable {M : Mem} {b : Nat → Nat} {n : Nat}
set_option maxHeartbeats 2000000 in
theorem rh_45 (hW : Wd M) (hX : TxR M b n) (k : Nat) {q c : Nat} (hq : M.2.2.1 89 29 = nI q) (hqc : q + c ≤ n) (hl : ∀ i, i < c → isLt (b (q + i))) (hc4 : c ≤ 4) {H : List (Nat × Fm)} {cc : Nat} (hH : HyR M 35 99 100 101 cc H) (x2 : Int32) : ∀ z j, j + z = H.length →
    (lp (st_X11_readHypothesis (k + 1)) (45, [.ref 89, .int (nI c), .int x2, .int 1, .int (nI j)], M) = lp (st_X11_readHypothesis (k + 1)) (45, [.ref 89, .int (nI c), .int x2, .int 1, .int (nI H.length)], M)) ∧
    (((1 ≤ c ∧ ∃ u, j ≤ u ∧ ∃ hu : u < H.length, H[u].1 = nmc (fun i => b (q + i)) c) → lp (st_X11_readHypothesis (k + 1)) (45, [.ref 89, .int (nI c), .int x2, .int 0, .int (nI j)], M) = lp (st_X11_readHypothesis (k + 1)) (45, [.ref 89, .int (nI c), .int x2, .int 1, .int (nI H.length)], M)) ∧
     (¬ (1 ≤ c ∧ ∃ u, j ≤ u ∧ ∃ hu : u < H.length, H[u].1 = nmc (fun i => b (q + i)) c) → lp (st_X11_readHypothesis (k + 1)) (45, [.ref 89, .int (nI c), .int x2, .int 0, .int (nI j)], M) = lp (st_X11_readHypothesis (k + 1)) (45, [.ref 89, .int (nI c), .int x2, .int 0, .int (nI H.length)], M))) := by
  have hH6 := hH.2.1
  intro z
  induction z with
  | zero =>
    intro j hj
    have e : j = H.length := by omega
    subst e
    exact ⟨rfl, fun h => by obtain ⟨-, u, h1, h2, -⟩ := h; omega, fun _ => rfl⟩
  | succ z ih =>
    intro j hj
    have hjl : j < H.length := by omega
    obtain ⟨i1, i2, i3⟩ := ih (j + 1) (by omega)
    obtain ⟨nA, nB⟩ := rx_isNamed hW hX k hq hqc hl (a := 99) (n1 := 24) (l := 100) (n2 := 6) (j := j) (nm := H[j].1) (by omega) (by omega) (s_99 hW) (s_100 hW) (by omega) (by omega) ⟨by omega, by omega⟩ (hH.2.2 j hjl).1
    have s1 : lp (st_X11_readHypothesis (k + 1)) (45, [.ref 89, .int (nI c), .int x2, .int 1, .int (nI j)], M) = lp (st_X11_readHypothesis (k + 1)) (45, [.ref 89, .int (nI c), .int x2, .int 1, .int (nI (j + 1))], M) := by
      refine (ge_X11_readHypothesis_45 (k + 1) 89 _ _ _ _ M).trans ?_
      simp (disch := omega) only [T_X11_readHypothesis_45, W_89 hW, gd_true, fO, fA, ex_in, bnd_s, bnd2_s, cal_s, Nat.reduceLT, true_and, and_true, and_self, nI_z, vp_iff, up2_if, Nat.reduceEqDiff, false_and, and_false, if_false, if_true, nI_1, nI_le_, nI_lt_, nI_lt0, nI_eq_, nI_add, hH.1, show ((1 : Int32) = 0) = False from eq_false (by decide)]
      rw [if_neg (by omega)]
    refine ⟨s1.trans i1, ?_⟩
    by_cases hm : 1 ≤ c ∧ c ≤ 4 ∧ nmc (fun i => b (q + i)) c = H[j].1
    · have en := nA hm
      have s0 : lp (st_X11_readHypothesis (k + 1)) (45, [.ref 89, .int (nI c), .int x2, .int 0, .int (nI j)], M) = lp (st_X11_readHypothesis (k + 1)) (45, [.ref 89, .int (nI c), .int x2, .int 1, .int (nI (j + 1))], M) := by
        refine (ge_X11_readHypothesis_45 (k + 1) 89 _ _ _ _ M).trans ?_
        simp (disch := omega) only [T_X11_readHypothesis_45, W_89 hW, gd_true, fO, fA, ex_in, bnd_s, bnd2_s, cal_s, Nat.reduceLT, true_and, and_true, and_self, nI_z, vp_iff, up2_if, Nat.reduceEqDiff, false_and, and_false, if_false, if_true, nI_1, nI_le_, nI_lt_, nI_lt0, nI_eq_, nI_add, hH.1, en, show ((1 : Int32) = 0) = False from eq_false (by decide)]
        rw [if_neg (by omega)]
      exact ⟨fun _ => s0.trans i1, fun h => (h ⟨hm.1, j, Nat.le_refl _, hjl, hm.2.2.symm⟩).elim⟩
    · have en := nB hm hc4
      have s0 : lp (st_X11_readHypothesis (k + 1)) (45, [.ref 89, .int (nI c), .int x2, .int 0, .int (nI j)], M) = lp (st_X11_readHypothesis (k + 1)) (45, [.ref 89, .int (nI c), .int x2, .int 0, .int (nI (j + 1))], M) := by
        refine (ge_X11_readHypothesis_45 (k + 1) 89 _ _ _ _ M).trans ?_
        simp (disch := omega) only [T_X11_readHypothesis_45, W_89 hW, gd_true, fO, fA, ex_in, bnd_s, bnd2_s, cal_s, Nat.reduceLT, true_and, and_true, and_self, nI_z, vp_iff, up2_if, Nat.reduceEqDiff, false_and, and_false, if_false, if_true, nI_1, nI_le_, nI_lt_, nI_lt0, nI_eq_, nI_add, hH.1, en]
        rw [if_neg (by omega)]
      refine ⟨fun h => s0.trans (i2 ⟨h.1, ?_⟩), fun h => s0.trans (i3 (fun r => h ⟨r.1, ?_⟩))⟩
      · obtain ⟨h1, u, h2, h3, h4⟩ := h
        refine ⟨u, ?_, h3, h4⟩
        apply Nat.lt_of_le_of_ne h2
        intro e
        subst e
        exact hm ⟨h1, hc4, h4.symm⟩
      · obtain ⟨-, u, h2, h3, h4⟩ := r
        exact ⟨u, by omega, h3, h4⟩
/-- the letters kept, four places -/
theorem rh_131 (hW : Wd M) (hX : TxR M b n) (k : Nat) {q c m : Nat} (hqc : q + c ≤ n) (hm : m < 6) (hc4 : c ≤ 4) (h35 : M.2.2.1 89 35 = nI m) (hl : ∀ i, i < c → isLt (b (q + i))) : ∀ z i, i + z = 4 → ∀ M1, Fr (fun a j => a = 99 ∧ 4 * m ≤ j) M M1 → (∀ u, u < i → u < c → M1.2.2.1 99 (4 * m + u) = nI (b (q + u))) → ∃ M2, lp (st_X11_readHypothesis k) (131, [.ref 89, .int (nI c), .int (nI q), .int (nI i)], M1) = lp (st_X11_readHypothesis k) (131, [.ref 89, .int (nI c), .int (nI q), .int (nI 4)], M2) ∧ Fr (fun a j => a = 99 ∧ 4 * m ≤ j) M M2 ∧ ∀ u, u < c → M2.2.2.1 99 (4 * m + u) = nI (b (q + u)) := by
  have h6 := hX.2.1
  intro z
  induction z with
  | zero =>
    intro i hi M1 hF hu
    have e : i = 4 := by omega
    subst e
    exact ⟨M1, rfl, hF, fun u hc => hu u (by omega) hc⟩
  | succ z ih =>
    intro i hi M1 hF hu
    have hW1 := hF.Wd hW
    have hX1 := hX.fr hF (by omega) (by omega)
    have h35' : M1.2.2.1 89 35 = nI m := (hF.int (by omega)).trans h35
    have e4 : (4 : Int32) * nI m + nI i = nI (4 * m + i) := by
      rw [show (4 : Int32) = nI 4 from rfl, ← nI_add]
      congr 1
      exact (Int32.ofNat_mul 4 m).symm
    have v1 : vp_in (nI (4 * m + i)) 24 := vp_nI (by omega) (by omega)
    have l4 : ((4 : Int32) ≤ nI i) = False := eq_false (fun x => by have := (nI_leI (a := 4) (by omega) (by omega)).mp x; omega)
    by_cases hic : c ≤ i
    · obtain ⟨M2, e2, r⟩ := ih (i + 1) (by omega) (wI M1 99 (4 * m + i) 0) (hF.wI ⟨rfl, by omega⟩ _) (fun u h1 h2 => by
        have ne : ¬ (4 * m + u = 4 * m + i) := by omega
        simp only [up2_if, true_and, ne, if_false]
        exact hu u (by omega) h2)
      refine ⟨M2, ?_, r⟩
      rw [← e2]
      refine (ge_X11_readHypothesis_131 k 89 _ _ _ M1).trans ?_
      simp (disch := omega) only [T_X11_readHypothesis_131, l4, if_false, W_89 hW1, gd_true, fO, fA, ex_in, Nat.reduceLT, true_and, and_self, bnd_s, h35', e4, v1, nI_z, nI_le_, nI_1]
      rw [if_pos hic]
    · have hb := hX1.2.2 (q + i) (by omega)
      have hli := hl i (by omega)
      unfold isLt at hli
      have v2 : vp_in (nI (q + i)) 600 := vp_nI (by omega) (by omega)
      have hs : sb (b (q + i)) = nI (b (q + i)) := sb_lo _ (by omega)
      obtain ⟨M2, e2, r⟩ := ih (i + 1) (by omega) (wI M1 99 (4 * m + i) (nI (b (q + i)))) (hF.wI ⟨rfl, by omega⟩ _) (fun u h1 h2 => by
        by_cases eu : u = i
        · subst eu
          simp [up2_if]
        · have ne : ¬ (4 * m + u = 4 * m + i) := by omega
          simp only [up2_if, true_and, ne, if_false]
          exact hu u (by omega) h2)
      refine ⟨M2, ?_, r⟩
      rw [← e2]
      refine (ge_X11_readHypothesis_131 k 89 _ _ _ M1).trans ?_
      simp (disch := omega) only [T_X11_readHypothesis_131, l4, if_false, W_89 hW1, gd_true, fO, fA, ex_in, Nat.reduceLT, true_and, and_self, bnd_s, h35', e4, v1, nI_z, nI_le_, nI_1, nI_add, v2, hb.2, hs]
      rw [if_neg hic]
end RHy
