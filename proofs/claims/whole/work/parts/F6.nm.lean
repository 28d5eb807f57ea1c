/-! SPELLING: names; the calls hypothesis and goalByte -/
def dg (nm i : Nat) : Nat := nm / 256 ^ (3 - i) % 256
def nsp (nm : Nat) : List Nat := ((List.range 4).map (dg nm)).takeWhile (fun x => decide (x ≠ 0))
def nsl (f : Nat → Nat) (c : Nat) : List Nat := (List.range c).map f
theorem dg_is {f : Nat → Nat} {c : Nat} (h : ltsOk f c) : ∀ i, i < 4 → dg (nmc f c) i = pad f c i := by
  intro i hi
  have hp : ∀ i, pad f c i < 256 := fun i => by
    unfold pad
    by_cases q : i < c
    · rw [if_pos q]
      have := h.2.2 i q
      unfold isLt at this
      omega
    · rw [if_neg q]
      omega
  have := hp 0
  have := hp 1
  have := hp 2
  have := hp 3
  unfold dg
  rw [nmc_pad h.2.1, pkb4]
  have hi4 : i = 0 ∨ i = 1 ∨ i = 2 ∨ i = 3 := by omega
  rcases hi4 with rfl | rfl | rfl | rfl
  · show _ / 16777216 % 256 = _; omega
  · show _ / 65536 % 256 = _; omega
  · show _ / 256 % 256 = _; omega
  · show _ / 1 % 256 = _; omega
theorem nsp_is {f : Nat → Nat} {c : Nat} (h : ltsOk f c) : nsp (nmc f c) = nsl f c := by
  have hd := dg_is h
  have e : nsp (nmc f c) = [pad f c 0, pad f c 1, pad f c 2, pad f c 3].takeWhile (fun x => decide (x ≠ 0)) := by
    unfold nsp
    rw [show (List.range 4).map (dg (nmc f c)) = [dg (nmc f c) 0, dg (nmc f c) 1, dg (nmc f c) 2, dg (nmc f c) 3] from rfl, hd 0 (by omega), hd 1 (by omega), hd 2 (by omega), hd 3 (by omega)]
  rw [e]
  have hz : ∀ i, i < c → ¬ f i = 0 := fun i hi q => by
    have := h.2.2 i hi
    unfold isLt at this
    omega
  have hc : c = 1 ∨ c = 2 ∨ c = 3 ∨ c = 4 := by have := h.1; have := h.2.1; omega
  rcases hc with rfl | rfl | rfl | rfl
  · have := hz 0 (by omega)
    simp [pad, List.takeWhile, this, nsl, List.range, List.range.loop]
  · have := hz 0 (by omega)
    have := hz 1 (by omega)
    simp [pad, List.takeWhile, *, nsl, List.range, List.range.loop]
  · have := hz 0 (by omega)
    have := hz 1 (by omega)
    have := hz 2 (by omega)
    simp [pad, List.takeWhile, *, nsl, List.range, List.range.loop]
  · have := hz 0 (by omega)
    have := hz 1 (by omega)
    have := hz 2 (by omega)
    have := hz 3 (by omega)
    simp [pad, List.takeWhile, *, nsl, List.range, List.range.loop]
section NM6
variable {M : Mem} {f : Nat → Nat} {c : Nat}
theorem nsl_get {f : Nat → Nat} {c i : Nat} : gtN (nsl f c) i = if i < c then nI (f i) else -1 := by
  unfold gtN nsl
  by_cases h : i < c
  · rw [if_pos h]; simp [List.getElem?_range, h]
  · rw [if_neg h]; rw [List.getElem?_eq_none (by simp; omega)]
theorem c_nameLetter (k : Nat) (h : ltsOk f c) {i : Nat} (hi : i < 2147483648) : f_X10_nameLetter k (nI (nmc f c)) (nI i) M = some (gtN (nsl f c) i, M) := by
  have hl := nmc_lt h
  unfold f_X10_nameLetter b_X10_nameLetter
  rw [nsl_get]
  by_cases h3 : i ≤ 3
  · have key : iushr (nI (nmc f c)) (24 - 8 * nI i) &&& 255 = nI (pad f c i) := by
      rw [← dg_is h i (by omega)]
      unfold dg
      have hi4 : i = 0 ∨ i = 1 ∨ i = 2 ∨ i = 3 := by omega
      rcases hi4 with rfl | rfl | rfl | rfl
      · have := pk_ushrN (n := nmc f c) (by omega) 24 24 (by decide)
        rw [show (24 - 8 * nI 0 : Int32) = 24 by decide]
        show (_ : Int32) &&& 255 = _
        rw [show iushr (nI (nmc f c)) 24 = nI (nmc f c / 2 ^ 24) from this]
        exact pk_andN (by omega) 8 (by decide)
      · have := pk_ushrN (n := nmc f c) (by omega) 16 16 (by decide)
        rw [show (24 - 8 * nI 1 : Int32) = 16 by decide]
        show (_ : Int32) &&& 255 = _
        rw [show iushr (nI (nmc f c)) 16 = nI (nmc f c / 2 ^ 16) from this]
        exact pk_andN (by omega) 8 (by decide)
      · have := pk_ushrN (n := nmc f c) (by omega) 8 8 (by decide)
        rw [show (24 - 8 * nI 2 : Int32) = 8 by decide]
        show (_ : Int32) &&& 255 = _
        rw [show iushr (nI (nmc f c)) 8 = nI (nmc f c / 2 ^ 8) from this]
        exact pk_andN (by omega) 8 (by decide)
      · have := pk_ushrN (n := nmc f c) (by omega) 0 0 (by decide)
        rw [show (24 - 8 * nI 3 : Int32) = 0 by decide]
        show (_ : Int32) &&& 255 = _
        rw [show iushr (nI (nmc f c)) 0 = nI (nmc f c / 2 ^ 0) from this]
        exact pk_andN (by omega) 8 (by decide)
    have hle : nI i ≤ 3 := by rw [show (3 : Int32) = nI 3 from rfl, nI_le_ (by omega) (by omega)]; exact h3
    simp (disch := omega) only [T_X10_nameLetter_0, nI_lt0, if_false, if_pos hle, key]
    by_cases hic : i < c
    · have := h.2.2 i hic
      unfold isLt at this
      rw [show pad f c i = f i from if_pos hic, if_neg (nI_ne0 (by omega) (by omega)), if_pos hic]
    · rw [show pad f c i = 0 from if_neg hic, if_pos (show nI 0 = (0 : Int32) from rfl), if_neg hic]
  · have hle : ¬ nI i ≤ 3 := by rw [show (3 : Int32) = nI 3 from rfl, nI_le_ (by omega) (by omega)]; exact h3
    simp (disch := omega) only [T_X10_nameLetter_0, nI_lt0, if_false, if_neg hle]
    rw [if_neg (by have := h.2.1; omega)]
theorem c_nameOf10 (hW : Wd M) (k : Nat) {Hl : List (Nat × Fm)} (hH : HyC M 10 c Hl) {j : Nat} (hj : j < Hl.length) : f_X2_nameOf k 10 (nI j) M = some (nI Hl[j].1, M) := by
  have h6 := hH.2.1
  obtain ⟨v, -, h2, -⟩ := hH.2.2 j hj
  unfold f_X2_nameOf b_X2_nameOf
  simp (disch := omega) only [T_X2_nameOf_0, nI_lt0, if_false, W_10 hW, gd_true, fO, fA, ex_in, bnd_s, Nat.reduceLT, true_and, and_self, hH.1, nI_le_, show (6 : Int32) = nI 6 from rfl, nI_z, vp_iff]
  rw [if_neg (by omega), if_neg (by omega), gd_pos (by omega), h2]
/-- a name, told -/
theorem th_15 (k : Nat) {q j nm : Nat} (hj : j < 6) (h : ltsOk f c) : ∀ z i, i + z = c → ∀ (M : Mem) (l : List Nat), Wd M → M.2.2.1 97 j = nI c → (∀ i, i < c → M.2.2.1 96 (4 * j + i) = nI (f i)) → TlS M q l → tcn (l ++ (nsl f c).drop i) < 4294967295 → ∃ M1, lp (st_X11_tellsHypothesis (k + 1)) (15, [.ref 89, .int (nI j), .int (nI i)], M) = some ((), M1) ∧ Fr STq M M1 ∧ TlS M1 q (l ++ (nsl f c).drop i) := by
  have h4 := h.2.1
  intro z
  induction z with
  | zero =>
    intro i hi M l hW hn hf hS hb
    refine ⟨M, ?_, Fr.refl, ?_⟩
    · refine (ge_X11_tellsHypothesis_15 (k + 1) 89 _ _ M).trans ?_
      simp (disch := omega) only [T_X11_tellsHypothesis_15, W_89 hW, gd_true, fO, fA, ex_in, bnd_s, bnd2_s, cal_s, Nat.reduceLT, true_and, and_true, and_self, nI_z, vp_iff, up2_if, Nat.reduceEqDiff, false_and, and_false, if_false, if_true, nI_1, nI_le_, nI_lt_, nI_lt0, nI_eq_, nI_add, hn, hj]
      rw [if_pos (by omega)]
    · rw [List.drop_of_length_le (by simp [nsl]; omega), List.append_nil]
      exact hS
  | succ z ih =>
    intro i hi M l hW hn hf hS hb
    have hd : (nsl f c).drop i = f i :: (nsl f c).drop (i + 1) := by
      rw [List.drop_eq_getElem_cons (by simp [nsl]; omega)]
      simp [nsl]
    rw [hd, show l ++ f i :: (nsl f c).drop (i + 1) = (l ++ [f i]) ++ (nsl f c).drop (i + 1) by simp] at hb
    have hlt := h.2.2 i (by omega)
    unfold isLt at hlt
    obtain ⟨M1, e1, F1, S1⟩ := hS.tell hW k (f i) (Or.inl (by omega)) (Nat.lt_of_le_of_lt (tcn_m _ _) hb)
    have hn1 : M1.2.2.1 97 j = nI c := (F1.int (by unfold STq; omega)).trans hn
    have hf1 : ∀ i, i < c → M1.2.2.1 96 (4 * j + i) = nI (f i) := fun i hi => (F1.int (by unfold STq; omega)).trans (hf i hi)
    obtain ⟨M2, e2, F2, S2⟩ := ih (i + 1) (by omega) M1 (l ++ [f i]) (F1.Wd hW) hn1 hf1 S1 hb
    refine ⟨M2, ?_, F1.trans F2, ?_⟩
    · refine (ge_X11_tellsHypothesis_15 (k + 1) 89 _ _ M).trans ?_
      have h24 : 4 * j + i < 24 := by omega
      simp (disch := omega) only [T_X11_tellsHypothesis_15, W_89 hW, gd_true, fO, fA, ex_in, bnd_s, bnd2_s, cal_s, Nat.reduceLT, true_and, and_true, and_self, nI_z, vp_iff, up2_if, Nat.reduceEqDiff, false_and, and_false, if_false, if_true, nI_1, nI_le_, nI_lt_, nI_lt0, nI_eq_, nI_add, hn, hj, show (4 : Int32) = nI 4 from rfl, nI_mul, h24, hf i (by omega), e1]
      rw [if_neg (by omega)]
      exact e2
    · rw [hd, show l ++ f i :: (nsl f c).drop (i + 1) = (l ++ [f i]) ++ (nsl f c).drop (i + 1) by simp]
      exact S2
theorem TlS.hyp {q : Nat} {l : List Nat} (hS : TlS M q l) (hW : Wd M) (k : Nat) {H : List (Nat × Fm)} (hH : HyR M 15 96 97 98 c H) {j : Nat} (hj : j < H.length) (hl : tcn (spB l ++ nsp H[j].1) < 4294967295) : ∃ M1, f_X11_tellsHypothesis (k + 1) 89 (nI j) M = some ((), M1) ∧ Fr STq M M1 ∧ TlS M1 q (spB l ++ nsp H[j].1) := by
  have h6 := hH.2.1
  obtain ⟨⟨f, n, h1, h2, h3, h4⟩, -⟩ := hH.2.2 j hj
  have hn4 := h1.2.1
  have hsl := spB_len l
  rw [h2, nsp_is h1] at hl ⊢
  by_cases hc : M.2.2.1 89 48 ≤ 0
  · obtain ⟨M1, e1, F1, S1⟩ := th_15 k (q := q) (nm := 0) (by omega) h1 n 0 (by omega) M (spB l) hW h3 h4 (hS.bl0 hc) (by simpa using hl)
    refine ⟨M1, ?_, F1, by simpa using S1⟩
    refine (ge_X11_tellsHypothesis_0 (k + 1) 89 _ M).trans ?_
    simp only [T_X11_tellsHypothesis_0, W_89 hW, gd_true, fO, Nat.reduceLT, and_self, if_pos hc]
    exact e1
  · obtain ⟨M0, e0, F0, S0⟩ := hS.tell hW k 32 (Or.inr (hS.bl1 hc).2) (by rw [← (hS.bl1 hc).1]; exact Nat.lt_of_le_of_lt (tcn_m _ _) hl)
    rw [← (hS.bl1 hc).1] at S0
    obtain ⟨M1, e1, F1, S1⟩ := th_15 k (q := q) (nm := 0) (by omega) h1 n 0 (by omega) M0 (spB l) (F0.Wd hW) ((F0.int (by unfold STq; omega)).trans h3) (fun i hi => (F0.int (by unfold STq; omega)).trans (h4 i hi)) S0 (by simpa using hl)
    refine ⟨M1, ?_, F0.trans F1, by simpa using S1⟩
    refine (ge_X11_tellsHypothesis_0 (k + 1) 89 _ M).trans ?_
    have e0' : f_X11_tells k 89 32 M = some ((), M0) := e0
    simp only [T_X11_tellsHypothesis_0, W_89 hW, gd_true, fO, Nat.reduceLT, and_self, if_neg hc, bnd2_s, cal_s, e0']
    exact e1
def SBg (a k : Nat) : Prop := a = 89 ∧ (k = 48 ∨ k = 49 ∨ k = 50)
theorem TlS.beg (hW : Wd M) (k : Nat) {q : Nat} (hq : q < 2147483648 ∨ q = 4294967295) : ∃ M1, f_X11_begins0 k 89 (nI q) M = some ((), M1) ∧ Fr SBg M M1 ∧ TlS M1 q [] := by
  refine ⟨wI (wI (wI M 89 48 0) 89 49 (nI q)) 89 50 (-1), ?_, ((Fr.refl.wI ⟨rfl, by omega⟩ _).wI ⟨rfl, by omega⟩ _).wI ⟨rfl, by omega⟩ _, by simp [up2_if, tcn]; rfl, by simp [up2_if], by simp [up2_if, gtN], by simp [tcn], hq⟩
  unfold f_X11_begins0 b_X11_begins0
  simp only [T_X11_begins0_0, W_89 hW, gd_true, fO, Nat.reduceLT, and_self]
theorem TlS.ans {q : Nat} {l : List Nat} (h : TlS M q l) (hq : q < 2147483648) : M.2.2.1 89 50 = gtN l q := by
  have := h.2.2.1
  rwa [if_pos hq] at this
theorem STq_SBg : ∀ a k, STq a k → SBg a k := fun a k h => by unfold STq at h; unfold SBg; omega
end NM6
