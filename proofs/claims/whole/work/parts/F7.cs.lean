/-! SPELLING: the class's Speller -/
theorem lgc_le0 (x y : Int64) : (lg_cmp x y ≤ 0) = ¬ (y < x) := propext ⟨fun h q => absurd ((lgc_gt x y).mpr q) (Int32.not_lt.mpr h), fun h => Int32.not_lt.mp (fun q => h ((lgc_gt x y).mp q))⟩
def wq (q : Nat) : Int64 := if q < 2147483648 then lN q else -1
/-- what is spelt so far is l, and byte q is wanted -/
def SpS (M : Mem) (q : Nat) (l : List Nat) : Prop := M.2.2.2.1 66 2 = wq q ∧ M.2.2.2.1 66 3 = lN l.length ∧ M.2.2.1 66 4 = (if q < 2147483648 then gtN l q else -1) ∧ l.length < 1152921504606846976 ∧ (q < 2147483648 ∨ q = 4294967295)
def S66 (a k : Nat) : Prop := a = 66 ∧ (k = 2 ∨ k = 3 ∨ k = 4)
theorem m1_lt (n : Nat) (h : n < 9223372036854775808) : (-1 : Int64) < lN n := by
  rw [Int64.lt_iff_toInt_lt, lQ_toInt h]
  show (-1 : Int) < _
  omega
theorem gtN_out {l : List Nat} {q : Nat} (h : l.length ≤ q) : gtN l q = -1 := by
  unfold gtN
  rw [List.getElem?_eq_none h]
section SC7
variable {M : Mem} {q : Nat} {l : List Nat}
theorem c_putBlank (hW : Wd M) (k : Nat) (h : SpS M q l) (hl : l.length + 1 < 1152921504606846976) : ∃ M1, f_X8_putBlank k 66 M = some ((), M1) ∧ Fr S66 M M1 ∧ SpS M1 q (spB l) := by
  obtain ⟨h1, h2, h3, h4, h5⟩ := h
  unfold f_X8_putBlank b_X8_putBlank
  by_cases e : l = []
  · refine ⟨M, ?_, Fr.refl, ?_⟩
    · have h0 : ¬ (0 : Int64) < lN l.length := by rw [e]; decide
      simp only [T_X8_putBlank_0, W_66 hW, gd_true, fO, Nat.reduceLT, and_self, h2, lgc_le0, h0, not_false_eq_true, if_true]
    · rw [spB, if_pos e, ← e]
      exact ⟨h1, h2, h3, h4, h5⟩
  · have hlen : 0 < l.length := List.length_pos_iff.mpr e
    have h0 : (0 : Int64) < lN l.length := by rw [show (0 : Int64) = lN 0 from rfl, lN_lt_ (by omega) (by omega)]; exact hlen
    have hln : lN l.length + 1 = lN (l ++ [32]).length := by rw [show (1 : Int64) = lN 1 from rfl, lQ_add]; simp
    rw [spB, if_neg e]
    by_cases hq : q < 2147483648
    · have ew : wq q = lN q := if_pos hq
      rw [ew] at h1
      rw [if_pos hq] at h3
      by_cases hm : l.length = q
      · have e6 : lg_cmp (lN l.length) (lN q) = 0 := (lg_cmp0 _ _).mpr (by rw [hm])
        refine ⟨wJ (wI M 66 4 32) 66 3 (lN l.length + 1), ?_, (Fr.refl.wI ⟨rfl, by omega⟩ _).wJ ⟨rfl, by omega⟩ _, by simp [up2_if, ew]; exact h1, by simp [up2_if]; simpa using hln, ?_, by simp; omega, h5⟩
        · simp only [T_X8_putBlank_0, W_66 hW, gd_true, fO, Nat.reduceLT, and_self, h1, h2, lgc_le0, h0, not_true_eq_false, if_false, e6, if_true]
        · rw [if_pos hq, gtN_app, if_pos hm.symm]
          simp [up2_if]; rfl
      · have e6 : ¬ lg_cmp (lN l.length) (lN q) = 0 := fun w => hm (by have := (lg_cmp0 _ _).mp w; rwa [lN_eq_ (by omega) (by omega)] at this)
        refine ⟨wJ M 66 3 (lN l.length + 1), ?_, Fr.refl.wJ ⟨rfl, by omega⟩ _, by simp [up2_if, ew]; exact h1, by simp [up2_if]; simpa using hln, ?_, by simp; omega, h5⟩
        · simp only [T_X8_putBlank_0, W_66 hW, gd_true, fO, Nat.reduceLT, and_self, h1, h2, lgc_le0, h0, not_true_eq_false, if_false, e6]
        · rw [if_pos hq, gtN_app, if_neg (fun w => hm w.symm)]
          exact h3
    · have ew : wq q = -1 := if_neg hq
      rw [ew] at h1
      rw [if_neg hq] at h3
      have e6 : ¬ lg_cmp (lN l.length) (-1) = 0 := fun w => by
        have := (lg_cmp0 _ _).mp w
        have h9 := m1_lt l.length (by omega)
        rw [this] at h9
        exact absurd h9 (by decide)
      refine ⟨wJ M 66 3 (lN l.length + 1), ?_, Fr.refl.wJ ⟨rfl, by omega⟩ _, by simp [up2_if, ew]; exact h1, by simp [up2_if]; simpa using hln, ?_, by simp; omega, h5⟩
      · simp only [T_X8_putBlank_0, W_66 hW, gd_true, fO, Nat.reduceLT, and_self, h1, h2, lgc_le0, h0, not_true_eq_false, if_false, e6]
      · rw [if_neg hq]
        exact h3
theorem c_wantsWithin (hW : Wd M) (k : Nat) (h : SpS M q l) {n : Nat} (hn : n < 1152921504606846976) : (q < 2147483648 ∧ l.length ≤ q ∧ q < l.length + n → f_X8_wantsWithin k 66 (lN n) M = some (1, M)) ∧ (¬ (q < 2147483648 ∧ l.length ≤ q ∧ q < l.length + n) → f_X8_wantsWithin k 66 (lN n) M = some (0, M)) := by
  obtain ⟨h1, h2, h3, h4, h5⟩ := h
  unfold f_X8_wantsWithin b_X8_wantsWithin
  by_cases hq : q < 2147483648
  · have ew : wq q = lN q := if_pos hq
    rw [ew] at h1
    simp (disch := omega) only [T_X8_wantsWithin_0, W_66 hW, gd_true, fO, Nat.reduceLT, and_self, h1, h2, lgc_lt, lgc_ge, lQ_add, lN_lt_]
    refine ⟨fun w => ?_, fun w => ?_⟩
    · rw [if_neg (by omega), if_neg (by omega)]
    · by_cases c1 : q < l.length
      · rw [if_pos c1]
      · rw [if_neg c1, if_pos (by omega)]
  · have ew : wq q = -1 := if_neg hq
    rw [ew] at h1
    have h9 := m1_lt l.length (by omega)
    simp (disch := omega) only [T_X8_wantsWithin_0, W_66 hW, gd_true, fO, Nat.reduceLT, and_self, h1, h2, lgc_lt, h9, if_true]
    exact ⟨fun w => absurd w.1 hq, fun _ => trivial⟩
/-- what a piece makes of it -/
theorem SpS.put (h : SpS M q l) (w : List Nat) (hl : l.length + w.length < 1152921504606846976) : (q < 2147483648 ∧ l.length ≤ q ∧ q < l.length + w.length → ∀ x, x = gtN w (q - l.length) → SpS (wJ (wI M 66 4 x) 66 3 (lN l.length + lN w.length)) q (l ++ w)) ∧ (¬ (q < 2147483648 ∧ l.length ≤ q ∧ q < l.length + w.length) → SpS (wJ M 66 3 (lN l.length + lN w.length)) q (l ++ w)) := by
  obtain ⟨h1, h2, h3, h4, h5⟩ := h
  have hln : lN l.length + lN w.length = lN (l ++ w).length := by rw [lQ_add]; simp
  refine ⟨fun c x hx => ⟨by simp [up2_if]; exact h1, by simp [up2_if]; simpa using hln, ?_, by simp; omega, h5⟩, fun c => ⟨by simp [up2_if]; exact h1, by simp [up2_if]; simpa using hln, ?_, by simp; omega, h5⟩⟩
  · rw [if_pos c.1, gtN_b _ c.2.1, ← hx]
    simp [up2_if]
  · show M.2.2.1 66 4 = _
    rw [h3]
    by_cases hq : q < 2147483648
    · rw [if_pos hq, if_pos hq]
      by_cases c1 : q < l.length
      · rw [gtN_l c1]
      · rw [gtN_out (by omega), gtN_out (by simp; omega)]
    · rw [if_neg hq, if_neg hq]
theorem SpS.fr {M1 : Mem} {S : Nat → Nat → Prop} (h : SpS M q l) (hF : Fq S M M1) (hS : ∀ k, ¬ S 66 k) : SpS M1 q l := ⟨(hF.lng (hS _)).trans h.1, (hF.lng (hS _)).trans h.2.1, (hF.int (hS _)).trans h.2.2.1, h.2.2.2⟩
theorem c_putWord (hW : Wd M) (k : Nat) (h : SpS M q l) {w : Nat} (hw : w < 22) (hl : l.length + 10 < 1152921504606846976) : ∃ M1, f_X8_putWord (k + 6) 66 (nI w) M = some ((), M1) ∧ Fr S66 M M1 ∧ SpS M1 q (spB l ++ wrd w) := by
  have hwl := (wch_is w hw).1
  have hsl := spB_len l
  obtain ⟨n, hn⟩ : ∃ n, n = k + 5 := ⟨_, rfl⟩
  rw [show k + 6 = n + 1 by omega]
  obtain ⟨M1, e1, F1, S1⟩ := c_putBlank hW n h (by omega)
  have hW1 := F1.Wd hW
  have e2 := c_wordLength (M := M1) n hw
  rw [hwl.2.2] at e2
  obtain ⟨w1, w2⟩ := c_wantsWithin hW1 n S1 (n := wlen w) (by omega)
  obtain ⟨p1, p2⟩ := S1.put (wrd w) (by rw [wrd_len]; omega)
  rw [wrd_len] at p1 p2
  unfold f_X8_putWord b_X8_putWord
  by_cases c : q < 2147483648 ∧ (spB l).length ≤ q ∧ q < (spB l).length + wlen w
  · have e4 := c_wordLetter (M := M1) (n - 5) (w := w) (i := q - (spB l).length) hw (by omega)
    rw [show n - 5 + 5 = n by omega] at e4
    have hwq : M1.2.2.2.1 66 2 - lN (spB l).length = lN (q - (spB l).length) := by rw [S1.1, wq, if_pos c.1, lQ_sub c.2.1]
    refine ⟨wJ (wI M1 66 4 (nI (wch w (q - (spB l).length)))) 66 3 (lN (spB l).length + lN (wlen w)), ?_, F1.trans ((Fr.refl.wI ⟨rfl, by omega⟩ _).wJ ⟨rfl, by omega⟩ _), p1 c _ ?_⟩
    · simp (disch := omega) only [T_X8_putWord_0, W_66 hW, W_66 hW1, gd_true, fO, Nat.reduceLT, and_self, bnd2_s, cal_s, e1, e2, nI_long, w1 c, show ((1 : Int32) = 0) = False from eq_false (by decide), if_false, hwq, lN_int, e4, S1.2.1]
    · have hlt : q - (spB l).length < (wrd w).length := by rw [wrd_len]; omega
      unfold gtN
      rw [List.getElem?_eq_getElem hlt, wrd_get hlt]
  · refine ⟨wJ M1 66 3 (lN (spB l).length + lN (wlen w)), ?_, F1.trans (Fr.refl.wJ ⟨rfl, by omega⟩ _), p2 c⟩
    simp (disch := omega) only [T_X8_putWord_0, W_66 hW, W_66 hW1, gd_true, fO, Nat.reduceLT, and_self, bnd2_s, cal_s, e1, e2, nI_long, w2 c, if_true, S1.2.1]
theorem c_putFormula (hW : Wd M) {c : Nat} (hT : TabC M c) (k : Nat) (h : SpS M q l) {f : Nat} (hf : f < c) (hb : blen (dC M f) < 576460752303423488) (hl : l.length + 1 < 576460752303423488) : ∃ M1, f_X8_putFormula (k + 7) 66 (nI f) M = some ((), M1) ∧ Fr S66 M M1 ∧ SpS M1 q (spB l ++ fsp (dC M f)) := by
  have hsl := spB_len l
  have hlf := hT.long hf
  obtain ⟨n, hn⟩ : ∃ n, n = k + 6 := ⟨_, rfl⟩
  rw [show k + 7 = n + 1 by omega]
  obtain ⟨M1, e1, F1, S1⟩ := c_putBlank hW n h (by omega)
  have hW1 := F1.Wd hW
  obtain ⟨T1, d1⟩ := hT.fr F1 (by unfold S66; omega) (by unfold S66; omega) (by unfold S66; omega) (by unfold S66; omega) (by unfold S66; omega) (by unfold S66; omega) (by unfold S66; omega)
  have e2 := c_bytesOf0 hW1 T1.1 T1.2.1.2 n hf
  rw [show M1.2.2.2.1 6 f = lN (blen (dC M f)) by rw [← d1]; exact T1.2.2.2.2.2.2.2.2 f hf] at e2
  obtain ⟨w1, w2⟩ := c_wantsWithin hW1 n S1 (n := blen (dC M f)) (by omega)
  obtain ⟨p1, p2⟩ := S1.put (fsp (dC M f)) (by rw [hlf]; omega)
  rw [hlf] at p1 p2
  unfold f_X8_putFormula b_X8_putFormula
  by_cases c : q < 2147483648 ∧ (spB l).length ≤ q ∧ q < (spB l).length + blen (dC M f)
  · have e4 := c_byteAt hW1 T1 (n - 6) (r := q - (spB l).length) hf (by rw [d1]; omega) (by omega)
    rw [show n - 6 + 6 = n by omega, d1] at e4
    have hwq : M1.2.2.2.1 66 2 - lN (spB l).length = lN (q - (spB l).length) := by rw [S1.1, wq, if_pos c.1, lQ_sub c.2.1]
    refine ⟨wJ (wI M1 66 4 (gtN (fsp (dC M f)) (q - (spB l).length))) 66 3 (lN (spB l).length + lN (blen (dC M f))), ?_, F1.trans ((Fr.refl.wI ⟨rfl, by omega⟩ _).wJ ⟨rfl, by omega⟩ _), p1 c _ rfl⟩
    simp (disch := omega) only [T_X8_putFormula_0, W_66 hW, W_66 hW1, W_2 hW1, gd_true, fO, Nat.reduceLT, and_self, bnd_s, bnd2_s, cal_s, e1, e2, w1 c, show ((1 : Int32) = 0) = False from eq_false (by decide), if_false, hwq, e4, S1.2.1]
  · refine ⟨wJ M1 66 3 (lN (spB l).length + lN (blen (dC M f))), ?_, F1.trans (Fr.refl.wJ ⟨rfl, by omega⟩ _), p2 c⟩
    simp (disch := omega) only [T_X8_putFormula_0, W_66 hW, W_66 hW1, W_2 hW1, gd_true, fO, Nat.reduceLT, and_self, bnd_s, bnd2_s, cal_s, e1, e2, w2 c, if_true, S1.2.1]
end SC7
