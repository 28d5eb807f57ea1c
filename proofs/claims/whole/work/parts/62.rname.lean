/-! NAMES, in the reference -/
def NmR (M : Mem) (a l j nm : Nat) : Prop := ∃ f c, ltsOk f c ∧ nm = nmc f c ∧ M.2.2.1 l j = nI c ∧ ∀ i, i < c → M.2.2.1 a (4 * j + i) = nI (f i)
section RN
variable {M : Mem} {b : Nat → Nat} {n : Nat}
theorem rx_isInS (k : Nat) {c lo hi : Nat} (hc : c < 100000) (hl : lo < 100000) (hh : hi < 100000) {L H : Int64} (eL : L = Int32.toInt64 (nI lo)) (eH : H = Int32.toInt64 (nI hi)) : (lo ≤ c ∧ c ≤ hi → f_X11_isIn k (Int32.toInt64 (nI c)) L H M = some (1, M)) ∧ (¬ (lo ≤ c ∧ c ≤ hi) → f_X11_isIn k (Int32.toInt64 (nI c)) L H M = some (0, M)) := by
  have hin := rx_isIn (M := M) k (Int32.toInt64 (nI c)) (Int32.toInt64 (nI lo)) (Int32.toInt64 (nI hi))
  rw [fa_wide_le, fa_wide_le, nI_leI (by omega) (by omega), nI_leI (by omega) (by omega)] at hin
  rw [eL, eH]
  exact hin
/-- NAME HERE: how many letters, or 0 -/
theorem rx_nameHere (hW : Wd M) (hX : TxR M b n) (k : Nat) {p : Nat} (hp : M.2.2.1 89 29 = nI p) (hpn : p ≤ n) : ∃ M1, Fr SP M M1 ∧ M1.2.2.1 89 29 = nI (tq b n p) ∧ (isN b n p → f_X11_nameHere (k + 5) 89 M = some (nI (te b n p - tq b n p), M1)) ∧ (¬ isN b n p → f_X11_nameHere (k + 5) 89 M = some (0, M1)) := by
  have h6 := hX.2.1
  have hle := tq_le b n p hpn
  obtain ⟨M1, a1, aF, a29⟩ := rx_word hW hX k hp hpn
  have hW1 := aF.Wd hW
  have hX1 := hX.fr aF (by simp [SP]) (by simp [SP])
  obtain ⟨M2, b1, bF, b29⟩ := rx_letters hW1 hX1 (k + 2) a29 hle.2.1
  have tqq := tq_tq b n p hpn
  rw [tqq.1, tqq.2] at b1
  rw [tqq.1] at b29
  have hW2 := bF.Wd hW1
  obtain ⟨iA, iB⟩ := rx_isInS (M := M2) (k + 4) (c := te b n p - tq b n p) (lo := 1) (hi := 4) (by omega) (by omega) (by omega) (L := 1) (H := 4) (by decide) (by decide)
  refine ⟨M2, aF.trans bF, b29, fun h => ?_, fun h => ?_⟩
  · have ei := iA ⟨by have := h.1; omega, h.2.1⟩
    unfold f_X11_nameHere b_X11_nameHere
    rcases tw_is b n p hpn with ⟨t1, t2, t3, t4, t5, t6⟩ | ⟨t1, t2, t3⟩
    · rw [t2] at a1
      have h7 : tw b n p ≤ 7 := by
        rcases h.2.2 with q | q
        · omega
        · exact q
      simp (disch := omega) only [T_X11_nameHere_0, W_89 hW, W_89 hW1, gd_true, fO, Nat.reduceLT, and_self, cal_s, a1, bnd2_s, b1, ei, show ((1 : Int32) = 0) = False from eq_false (by decide), if_false, nI_ne_m1, show (8 : Int32) = nI 8 from rfl, nI_le_]
      rw [if_neg (by omega)]
    · rw [t2] at a1
      simp only [T_X11_nameHere_0, W_89 hW, W_89 hW1, gd_true, fO, Nat.reduceLT, and_self, cal_s, a1, bnd2_s, b1, ei, show ((1 : Int32) = 0) = False from eq_false (by decide), if_false, if_true]
  · unfold f_X11_nameHere b_X11_nameHere
    by_cases hc : 1 ≤ te b n p - tq b n p ∧ te b n p - tq b n p ≤ 4
    · have ei := iA hc
      rcases tw_is b n p hpn with ⟨t1, t2, t3, t4, t5, t6⟩ | ⟨t1, t2, t3⟩
      · rw [t2] at a1
        have h8 : 8 ≤ tw b n p := by
          apply Nat.le_of_not_lt
          intro q
          exact h ⟨t5, hc.2, Or.inr (by omega)⟩
        simp (disch := omega) only [T_X11_nameHere_0, W_89 hW, W_89 hW1, gd_true, fO, Nat.reduceLT, and_self, cal_s, a1, bnd2_s, b1, ei, show ((1 : Int32) = 0) = False from eq_false (by decide), if_false, nI_ne_m1, show (8 : Int32) = nI 8 from rfl, nI_le_]
        rw [if_pos h8]
      · exact (h ⟨by omega, hc.2, Or.inl t1⟩).elim
    · have ei := iB hc
      simp only [T_X11_nameHere_0, W_89 hW, W_89 hW1, gd_true, fO, Nat.reduceLT, and_self, cal_s, a1, bnd2_s, b1, ei, if_true]
theorem nar_b0 : (narrow .boolean (.int (0 : Int32)) = .int 0) = True := eq_true rfl
theorem nar_b1 : (narrow .boolean (.int (1 : Int32)) = .int 1) = True := eq_true rfl
/-- IS NAMED: whether the j-th of some names stands here -/
theorem rx_isNamed (hW : Wd M) (hX : TxR M b n) (k : Nat) {q c : Nat} (hq : M.2.2.1 89 29 = nI q) (hqc : q + c ≤ n) (hl : ∀ i, i < c → isLt (b (q + i))) {a n1 l n2 j nm : Nat} (ha : a < 126) (hl2 : l < 126) (s1 : M.2.1 a = .inl (1, n1)) (s2 : M.2.1 l = .inl (1, n2)) (hn1 : 4 * j + 4 ≤ n1) (hn2 : j < n2) (h7 : n1 ≤ 70000 ∧ n2 ≤ 70000) (hN : NmR M a l j nm) :
    (1 ≤ c ∧ c ≤ 4 ∧ nmc (fun i => b (q + i)) c = nm → f_X11_isNamed k 89 a l (nI j) (nI c) M = some (1, M)) ∧ (¬ (1 ≤ c ∧ c ≤ 4 ∧ nmc (fun i => b (q + i)) c = nm) → c ≤ 4 → f_X11_isNamed k 89 a l (nI j) (nI c) M = some (0, M)) := by
  have h6 := hX.2.1
  obtain ⟨f, d, hok, e, hd, hf⟩ := hN
  have hd4 := hok.2.1
  have zero : ∀ y, lp (st_X11_isNamed k) (18, [.ref 89, .ref a, .int (nI j), .int (nI c), .int 0, .int y], M) = some (0, M) := by
    intro y
    refine (ge_X11_isNamed_18 k 89 a _ _ _ _ M).trans ?_
    simp only [T_X11_isNamed_18, if_true, nar_b0, gd_true, ite_self]
  have loop : c = d → c ≤ 4 → ∀ z i, i + z = c → ((∀ u, i ≤ u → u < c → b (q + u) = f u) → lp (st_X11_isNamed k) (18, [.ref 89, .ref a, .int (nI j), .int (nI c), .int 1, .int (nI i)], M) = some (1, M)) ∧ ((¬ ∀ u, i ≤ u → u < c → b (q + u) = f u) → lp (st_X11_isNamed k) (18, [.ref 89, .ref a, .int (nI j), .int (nI c), .int 1, .int (nI i)], M) = some (0, M)) := by
    intro hcd hc4 z
    induction z with
    | zero =>
      intro i hi
      refine ⟨fun _ => ?_, fun h => (h (fun u a b => by omega)).elim⟩
      refine (ge_X11_isNamed_18 k 89 a _ _ _ _ M).trans ?_
      simp (disch := omega) only [T_X11_isNamed_18, nI_le_, nar_b1, gd_true]
      rw [if_pos (by omega)]
    | succ z ih =>
      intro i hi
      have hb := hX.2.2 (q + i) (by omega)
      have hfi := hok.2.2 i (by omega)
      unfold isLt at hfi
      have step : lp (st_X11_isNamed k) (18, [.ref 89, .ref a, .int (nI j), .int (nI c), .int 1, .int (nI i)], M) = if b (q + i) = f i then lp (st_X11_isNamed k) (18, [.ref 89, .ref a, .int (nI j), .int (nI c), .int 1, .int (nI (i + 1))], M) else lp (st_X11_isNamed k) (18, [.ref 89, .ref a, .int (nI j), .int (nI c), .int 0, .int (nI (i + 1))], M) := by
        refine (ge_X11_isNamed_18 k 89 a _ _ _ _ M).trans ?_
        have e4 : (4 : Int32) * nI j + nI i = nI (4 * j + i) := by
          rw [show (4 : Int32) = nI 4 from rfl, ← nI_add]
          congr 1
          exact (Int32.ofNat_mul 4 j).symm
        have v1 : vp_in (nI (4 * j + i)) n1 := vp_nI (by omega) h7.1
        have v2 : vp_in (nI (q + i)) 600 := vp_nI (by omega) (by omega)
        have hsw : (nI (f i) = sb (b (q + i))) = (b (q + i) = f i) := propext ⟨fun x => (sb_eq hb.1 (by omega)).mp x.symm, fun x => ((sb_eq hb.1 (by omega)).mpr x).symm⟩
        simp (disch := omega) only [T_X11_isNamed_18, nI_le_, show ((1 : Int32) = 0) = False from eq_false (by decide), if_false, W_89 hW, gd_true, fO, fA, s1, ha, ex_in, true_and, and_self, Nat.reduceLT, bnd_s, e4, v1, hq, nI_add, v2, nI_z, hf i (by omega), hb.2, hsw, nI_1]
        rw [if_neg (by omega)]
      rw [step]
      obtain ⟨i1, i2⟩ := ih (i + 1) (by omega)
      by_cases hq2 : b (q + i) = f i
      · rw [if_pos hq2]
        refine ⟨fun h => i1 (fun u x y => h u (by omega) y), fun h => i2 (fun r => h (fun u x y => ?_))⟩
        by_cases eu : u = i
        · rw [eu]; exact hq2
        · exact r u (by omega) y
      · rw [if_neg hq2]
        exact ⟨fun h => (hq2 (h i (Nat.le_refl _) (by omega))).elim, fun _ => zero _⟩
  have head : f_X11_isNamed k 89 a l (nI j) (nI c) M = if d = c then lp (st_X11_isNamed k) (18, [.ref 89, .ref a, .int (nI j), .int (nI c), .int 1, .int 0], M) else lp (st_X11_isNamed k) (18, [.ref 89, .ref a, .int (nI j), .int (nI c), .int 0, .int 0], M) := by
    refine (ge_X11_isNamed_0 k 89 a l _ _ M).trans ?_
    have v1 : vp_in (nI j) n2 := vp_nI hn2 h7.2
    simp (disch := omega) only [T_X11_isNamed_0, fA, W_89 hW, s2, hl2, ex_in, true_and, v1, gd_true, nI_z, hd, nI_eq_]
  refine ⟨fun h => ?_, fun h hc4 => ?_⟩
  · have hok2 : ltsOk (fun i => b (q + i)) c := ⟨h.1, h.2.1, hl⟩
    have := (nmc_inj hok2 hok).mp (h.2.2.trans e)
    rw [head, if_pos this.1.symm]
    exact (loop this.1 h.2.1 c 0 (by omega)).1 (fun u _ hu => this.2 u hu)
  · rw [head]
    by_cases hdc : d = c
    · rw [if_pos hdc]
      have hc1 : 1 ≤ c := by have := hok.1; omega
      have hok2 : ltsOk (fun i => b (q + i)) c := ⟨hc1, hc4, hl⟩
      refine (loop hdc.symm hc4 c 0 (by omega)).2 (fun r => h ⟨hc1, hc4, ?_⟩)
      rw [e]
      exact (nmc_inj hok2 hok).mpr ⟨hdc.symm, fun i hi => r i (Nat.zero_le _) hi⟩
    · rw [if_neg hdc]
      exact zero 0
end RN
