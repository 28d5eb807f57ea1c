/-! WORDS OF A TEXT: the reference's way -/
theorem sb_and : ∀ x, x < 256 → sb x &&& 255 = nI x := by decide +kernel
theorem sb_lo : ∀ x, x < 128 → sb x = nI x := by decide +kernel
theorem nI_255 : ∀ x, x < 256 → nI x &&& 255 = nI x := by decide +kernel
theorem sb_lt : ∀ x, x < 256 → ((97 ≤ sb x ∧ sb x ≤ 122) ↔ (97 ≤ x ∧ x ≤ 122)) := by decide +kernel
theorem sb_eq {x y : Nat} (hx : x < 256) (hy : y < 128) : sb x = nI y ↔ x = y := by
  constructor
  · intro h
    have h1 := sb_and x hx
    rw [h, nI_255 y (by omega)] at h1
    exact ((nI_eq (by omega) (by omega)).mp h1).symm
  · intro h
    rw [h]
    exact sb_lo y hy
theorem lgc_lt (x y : Int64) : lg_cmp x y < 0 ↔ x < y := by
  unfold lg_cmp
  by_cases h : x > y
  · rw [if_pos h]
    constructor
    · intro q; exact absurd q (by decide)
    · intro q; exact absurd q (Int64.not_lt.mpr (Int64.le_of_lt h))
  · rw [if_neg h]
    by_cases e : x = y
    · subst e
      simp
    · have hl : x < y := by
        rw [Int64.lt_iff_toInt_lt] at *
        have : ¬ x.toInt = y.toInt := fun q => e (Int64.toInt_inj.mp q)
        have h' : ¬ y.toInt < x.toInt := fun q => h (Int64.lt_iff_toInt_lt.mpr q)
        omega
      simp [e, hl]
theorem lgc_gt (x y : Int64) : 0 < lg_cmp x y ↔ y < x := by
  unfold lg_cmp
  by_cases h : x > y
  · rw [if_pos h]
    constructor
    · intro _; exact h
    · intro _; decide
  · rw [if_neg h]
    constructor
    · intro q
      split at q <;> exact absurd q (by decide)
    · intro q
      exact (h q).elim
theorem rx_isIn {M : Mem} (k : Nat) (x lo hi : Int64) : (lo ≤ x ∧ x ≤ hi → f_X11_isIn k x lo hi M = some (1, M)) ∧ (¬ (lo ≤ x ∧ x ≤ hi) → f_X11_isIn k x lo hi M = some (0, M)) := by
  unfold f_X11_isIn b_X11_isIn
  simp only [T_X11_isIn_0, lgc_lt, lgc_gt]
  constructor
  · intro h
    rw [if_neg (Int64.not_lt.mpr h.1), if_neg (Int64.not_lt.mpr h.2)]
  · intro h
    by_cases q : x < lo
    · rw [if_pos q]
    · rw [if_neg q, if_pos (Int64.not_le.mp (fun w => h ⟨Int64.not_lt.mp q, w⟩))]
def TxR (M : Mem) (b : Nat → Nat) (n : Nat) : Prop := M.2.2.1 89 28 = nI n ∧ n ≤ 600 ∧ ∀ i, i < n → b i < 256 ∧ M.2.2.1 109 i = sb (b i)
def SP (a k : Nat) : Prop := a = 89 ∧ k = 29
theorem TxR.fr {M M1 : Mem} {b : Nat → Nat} {n : Nat} {S : Nat → Nat → Prop} (h : TxR M b n) (hf : Fr S M M1) (h1 : ¬ S 89 28) (h2 : ∀ k, ¬ S 109 k) : TxR M1 b n := ⟨(hf.int h1).trans h.1, h.2.1, fun i hi => ⟨(h.2.2 i hi).1, (hf.int (h2 i)).trans (h.2.2 i hi).2⟩⟩
def woff : Nat → Nat
  | 0 => 0
  | w + 1 => woff w + wlen w + 1
theorem woff_is : woff 22 = 74 ∧ ∀ w, w < 22 → woff w + wlen w < 74 ∧ tch 1 (woff w + wlen w) = 32 ∧ ∀ i, i < 5 → i < wlen w → tch 1 (woff w + i) = nI (wch w i) ∧ wch w i ≠ 32 := by decide +kernel
section RL
variable {M : Mem} {b : Nat → Nat} {n : Nat}
theorem rx_peek (hW : Wd M) (hX : TxR M b n) (k : Nat) {p : Nat} (hp : M.2.2.1 89 29 = nI p) (hpn : p ≤ 600) : (p < n → f_X11_peek k 89 M = some (nI (b p), M)) ∧ (n ≤ p → f_X11_peek k 89 M = some (-1, M)) := by
  have h6 := hX.2.1
  unfold f_X11_peek b_X11_peek
  simp (disch := omega) only [T_X11_peek_0, W_89 hW, gd_true, fO, fA, ex_in, bnd_s, bnd2_s, cal_s, Nat.reduceLT, true_and, and_true, and_self, nI_z, vp_iff, up2_if, Nat.reduceEqDiff, false_and, and_false, if_false, if_true, nI_1, nI_le_, nI_lt_, nI_lt0, nI_eq_, nI_add, hX.1, hp]
  constructor
  · intro h
    have hb := hX.2.2 p h
    rw [if_neg (by omega), gd_pos (by omega), hb.2, sb_and _ hb.1]
  · intro h
    rw [if_pos h]
theorem blanks_loop (hW : Wd M) (hX : TxR M b n) (k : Nat) : ∀ z p, p + z = n → ∀ M1, Fr SP M M1 → M1.2.2.1 89 29 = nI p → ∃ M2, lp (st_X11_blanks (k + 1)) (0, [.ref 89], M1) = some ((), M2) ∧ Fr SP M M2 ∧ M2.2.2.1 89 29 = nI (skp b z p) := by
  intro z
  induction z with
  | zero =>
    intro p hp M1 hF h11
    have hW1 := hF.Wd hW
    have hX1 := hX.fr hF (by simp [SP]) (by simp [SP])
    have h6 := hX.2.1
    refine ⟨M1, ?_, hF, h11⟩
    refine (ge_X11_blanks_0 (k + 1) 89 M1).trans ?_
    have e := (rx_peek hW1 hX1 k h11 (by omega)).2 (by omega)
    simp only [T_X11_blanks_0, W_89 hW1, gd_true, fO, fA, ex_in, bnd_s, bnd2_s, cal_s, Nat.reduceLT, true_and, and_true, and_self, nI_z, vp_iff, up2_if, Nat.reduceEqDiff, false_and, and_false, if_false, if_true, nI_1, nI_le_, nI_lt_, nI_lt0, nI_eq_, nI_add, e, show ((-1 : Int32) = 32) = False from eq_false (by decide)]
  | succ z ih =>
    intro p hp M1 hF h11
    have hW1 := hF.Wd hW
    have hX1 := hX.fr hF (by simp [SP]) (by simp [SP])
    have h6 := hX.2.1
    have hb := (hX1.2.2 p (by omega)).1
    have e := (rx_peek hW1 hX1 k h11 (by omega)).1 (by omega)
    by_cases h : b p = 32
    · obtain ⟨M2, e2, r⟩ := ih (p + 1) (by omega) (wI M1 89 29 (nI (p + 1))) (hF.wI (by simp [SP]) _) rfl
      refine ⟨M2, ?_, ?_⟩
      · rw [← e2]
        refine (ge_X11_blanks_0 (k + 1) 89 M1).trans ?_
        simp (disch := omega) only [T_X11_blanks_0, W_89 hW1, gd_true, fO, fA, ex_in, bnd_s, bnd2_s, cal_s, Nat.reduceLT, true_and, and_true, and_self, nI_z, vp_iff, up2_if, Nat.reduceEqDiff, false_and, and_false, if_false, if_true, nI_1, nI_le_, nI_lt_, nI_lt0, nI_eq_, nI_add, e, show (32 : Int32) = nI 32 from rfl, h, h11]
      · unfold skp
        rw [if_pos h]
        exact r
    · refine ⟨M1, ?_, hF, ?_⟩
      · refine (ge_X11_blanks_0 (k + 1) 89 M1).trans ?_
        simp (disch := omega) only [T_X11_blanks_0, W_89 hW1, gd_true, fO, fA, ex_in, bnd_s, bnd2_s, cal_s, Nat.reduceLT, true_and, and_true, and_self, nI_z, vp_iff, up2_if, Nat.reduceEqDiff, false_and, and_false, if_false, if_true, nI_1, nI_le_, nI_lt_, nI_lt0, nI_eq_, nI_add, e, show (32 : Int32) = nI 32 from rfl, h]
      · unfold skp
        rw [if_neg h]
        exact h11
theorem rx_blanks (hW : Wd M) (hX : TxR M b n) (k : Nat) {p : Nat} (hp : M.2.2.1 89 29 = nI p) (hpn : p ≤ n) : ∃ M1, f_X11_blanks (k + 1) 89 M = some ((), M1) ∧ Fr SP M M1 ∧ M1.2.2.1 89 29 = nI (tq b n p) := blanks_loop hW hX k (n - p) p (by omega) M Fr.refl hp
theorem letters_loop (hW : Wd M) (hX : TxR M b n) (k : Nat) {q : Nat} (hq : M.2.2.1 89 29 = nI q) : ∀ z t, q + t + z = n → lp (st_X11_lettersHere (k + 1)) (9, [.ref 89, .int (nI (q + t))], M) = some (nI (lts b z (q + t) - q), M) := by
  intro z
  induction z with
  | zero =>
    intro t ht
    have h6 := hX.2.1
    refine (ge_X11_lettersHere_9 (k + 1) 89 (nI (q + t)) M).trans ?_
    simp (disch := omega) only [T_X11_lettersHere_9, W_89 hW, gd_true, fO, fA, ex_in, bnd_s, bnd2_s, cal_s, Nat.reduceLT, true_and, and_true, and_self, nI_z, vp_iff, up2_if, Nat.reduceEqDiff, false_and, and_false, if_false, if_true, nI_1, nI_le_, nI_lt_, nI_lt0, nI_eq_, nI_add, hX.1, hq, nI_sb]
    rw [if_pos (by omega)]
    unfold lts
    rw [show q + t - q = t by omega]
  | succ z ih =>
    intro t ht
    have h6 := hX.2.1
    have hb := hX.2.2 (q + t) (by omega)
    refine (ge_X11_lettersHere_9 (k + 1) 89 (nI (q + t)) M).trans ?_
    have hin := rx_isIn (M := M) k (Int32.toInt64 (sb (b (q + t)))) (Int32.toInt64 97) (Int32.toInt64 122)
    rw [fa_wide_le, fa_wide_le, sb_lt _ hb.1] at hin
    have h97 : (97 : Int64) = Int32.toInt64 97 := by decide
    have h122 : (122 : Int64) = Int32.toInt64 122 := by decide
    by_cases h : isLt (b (q + t))
    · have e := hin.1 h
      simp (disch := omega) only [T_X11_lettersHere_9, W_89 hW, gd_true, fO, fA, ex_in, bnd_s, bnd2_s, cal_s, Nat.reduceLT, true_and, and_true, and_self, nI_z, vp_iff, up2_if, Nat.reduceEqDiff, false_and, and_false, if_false, if_true, nI_1, nI_le_, nI_lt_, nI_lt0, nI_eq_, nI_add, hX.1, hq, hb.2, h97, h122, e, show ((1 : Int32) = 0) = False from eq_false (by decide)]
      rw [if_neg (by omega), gd_pos (by omega)]
      unfold lts
      rw [if_pos h]
      exact ih (t + 1) (by omega)
    · have e := hin.2 h
      simp (disch := omega) only [T_X11_lettersHere_9, W_89 hW, gd_true, fO, fA, ex_in, bnd_s, bnd2_s, cal_s, Nat.reduceLT, true_and, and_true, and_self, nI_z, vp_iff, up2_if, Nat.reduceEqDiff, false_and, and_false, if_false, if_true, nI_1, nI_le_, nI_lt_, nI_lt0, nI_eq_, nI_add, hX.1, hq, hb.2, h97, h122, e, nI_sb]
      rw [if_neg (by omega), gd_pos (by omega)]
      unfold lts
      rw [if_neg h, show q + t - q = t by omega]
/-- LETTERS HERE: blanks are passed, the letters counted -/
theorem rx_letters (hW : Wd M) (hX : TxR M b n) (k : Nat) {p : Nat} (hp : M.2.2.1 89 29 = nI p) (hpn : p ≤ n) : ∃ M1, f_X11_lettersHere (k + 2) 89 M = some (nI (te b n p - tq b n p), M1) ∧ Fr SP M M1 ∧ M1.2.2.1 89 29 = nI (tq b n p) := by
  obtain ⟨M1, e, hF, hq⟩ := rx_blanks hW hX k hp hpn
  have hW1 := hF.Wd hW
  have hX1 := hX.fr hF (by simp [SP]) (by simp [SP])
  have sk := skp_is b (n - p) p
  refine ⟨M1, ?_, hF, hq⟩
  have l := letters_loop hW1 hX1 (k + 1) hq (n - tq b n p) 0 (by show skp b (n - p) p + 0 + (n - skp b (n - p) p) = n; omega)
  refine (ge_X11_lettersHere_0 (k + 2) 89 M).trans ?_
  simp only [T_X11_lettersHere_0, W_89 hW, W_89 hW1, gd_true, fO, fA, ex_in, bnd_s, bnd2_s, cal_s, Nat.reduceLT, true_and, and_true, and_self, nI_z, vp_iff, up2_if, Nat.reduceEqDiff, false_and, and_false, if_false, if_true, nI_1, nI_le_, nI_lt_, nI_lt0, nI_eq_, nI_add, e, hq]
  exact l
end RL
