/-! LINES, LINE, LINEBYTE: the calls on both sides -/
def LnV (acc : List Ln) (k w : Nat) : Int32 := match acc[k]? with
  | some e => if w = 0 then nI e.1 else if w = 4 then nI e.2.2.1 else e.2.2.2 (w - 1)
  | none => -2
theorem LnV_at {acc : List Ln} {k w : Nat} {e : Ln} (h : acc[k]? = some e) : LnV acc k w = if w = 0 then nI e.1 else if w = 4 then nI e.2.2.1 else e.2.2.2 (w - 1) := by
  unfold LnV
  rw [h]
section CL2
variable {M M1 : Mem} {c n : Nat} {acc : List Ln}
theorem rx_isLen (k : Nat) {n : Nat} (hn : n ≤ 1000) (x : Int32) : (∀ j, j < n → x = nI j → f_X11_isIn k (Int32.toInt64 x) 0 (Int32.toInt64 (nI n - 1)) M = some (1, M)) ∧ ((∀ j, j < n → x ≠ nI j) → f_X11_isIn k (Int32.toInt64 x) 0 (Int32.toInt64 (nI n - 1)) M = some (0, M)) := by
  have hin := rx_isIn (M := M) k (Int32.toInt64 x) (Int32.toInt64 0) (Int32.toInt64 (nI n - 1))
  rw [fa_wide_le, fa_wide_le] at hin
  have l0 : (0 : Int64) = Int32.toInt64 0 := by decide
  rw [l0]
  constructor
  · intro j hj e
    obtain ⟨m, rfl⟩ : ∃ m, n = m + 1 := ⟨n - 1, by omega⟩
    refine hin.1 ⟨by rw [e]; exact nI_pos' (by omega), ?_⟩
    rw [e, show nI (m + 1) - 1 = nI m from pm_sub (m + 1), nI_le_ (by omega) (by omega)]
    omega
  · intro h
    refine hin.2 (fun q => ?_)
    obtain ⟨j, hj, e⟩ := nI_of (x := x) (Int32.not_lt.mpr q.1)
    have hjn : ¬ j < n := fun z => h j z e
    rw [e] at q
    cases n with
    | zero =>
      have := q.2
      rw [show nI 0 - 1 = -1 by decide, Int32.le_iff_toInt_le, nI_toInt (by omega), show (-1 : Int32).toInt = -1 from rfl] at this
      omega
    | succ m =>
      have := q.2
      rw [show nI (m + 1) - 1 = nI m from pm_sub (m + 1), nI_le_ (by omega) (by omega)] at this
      omega
theorem in_len {x : Int32} {n : Nat} (hn : n ≤ 1000) : (∃ j, j < n ∧ x = nI j) ∨ ((∀ j, j < n → x ≠ nI j) ∧ (x < 0 ∨ (¬ x < 0 ∧ nI n ≤ x ∧ ¬ x < nI n))) := by
  by_cases h : ∃ j, j < n ∧ x = nI j
  · exact Or.inl h
  · refine Or.inr ⟨fun j hj e => h ⟨j, hj, e⟩, ?_⟩
    by_cases hneg : x < 0
    · exact Or.inl hneg
    · obtain ⟨i, hi, e⟩ := nI_of hneg
      have hin : ¬ i < n := fun q => h ⟨i, q, e⟩
      exact Or.inr ⟨hneg, by rw [e, nI_le_ (by omega) (by omega)]; omega, by rw [e, nI_lt_ (by omega) (by omega)]; exact hin⟩
theorem c_ruleOf (hW : Wd M) {k : Nat} (hk : k < 406) : f_X4_ruleOf (n + 1) 67 (nI k) M = some (M.2.2.1 68 k, M) := by
  have y := c_atG hW n (a := 68) (by omega) (s_68 hW) hk (by omega)
  show T_X4_ruleOf_0 (fun v M => some (v, M)) none (n + 1) 67 (nI k) M = _
  unfold T_X4_ruleOf_0
  simp only [↓gd_pos (fO67 hW), ↓bnd_of (r_67_1 hW), ↓bnd2_of (show cal (n + 1) (fun zz => f_X10_at zz 68 (nI k) M) = _ from y)]
theorem c_deepOf (hW : Wd M) {k : Nat} (hk : k < 406) : f_X4_deepOf (n + 1) 67 (nI k) M = some (M.2.2.1 70 k, M) := by
  have y := c_atG hW n (a := 70) (by omega) (s_70 hW) hk (by omega)
  show T_X4_deepOf_0 (fun v M => some (v, M)) none (n + 1) 67 (nI k) M = _
  unfold T_X4_deepOf_0
  simp only [↓gd_pos (fO67 hW), ↓bnd_of (r_67_3 hW), ↓bnd2_of (show cal (n + 1) (fun zz => f_X10_at zz 70 (nI k) M) = _ from y)]
theorem c_formulaOf4 (hW : Wd M) {k : Nat} (hk : k < 406) : f_X4_formulaOf (n + 1) 67 (nI k) M = some (M.2.2.1 69 k, M) := by
  have y := c_atG hW n (a := 69) (by omega) (s_69 hW) hk (by omega)
  show T_X4_formulaOf_0 (fun v M => some (v, M)) none (n + 1) 67 (nI k) M = _
  unfold T_X4_formulaOf_0
  simp only [↓gd_pos (fO67 hW), ↓bnd_of (r_67_2 hW), ↓bnd2_of (show cal (n + 1) (fun zz => f_X10_at zz 69 (nI k) M) = _ from y)]
theorem c_fromOf (hW : Wd M) {k w : Nat} (hk : k < 406) (hw : w < 3) : f_X4_fromOf (n + 1) 67 (nI k) (nI w) M = some (M.2.2.1 71 (k * 3 + w), M) := by
  have y := c_atG hW n (a := 71) (i := k * 3 + w) (by omega) (s_71 hW) (by omega) (by omega)
  have ei : nI k * 3 + nI w = nI (k * 3 + w) := by rw [show (3 : Int32) = nI 3 from rfl, nI_mul, nI_add]
  have hk0 : (nI k < (0 : Int32)) = False := nI_lt0 (by omega)
  have hw0 : (nI w < (0 : Int32)) = False := nI_lt0 (by omega)
  have hw3 : (nI w < (3 : Int32)) = True := eq_true (by rw [show (3 : Int32) = nI 3 from rfl, nI_lt_ (by omega) (by omega)]; exact hw)
  show T_X4_fromOf_0 (fun v M => some (v, M)) none (n + 1) 67 (nI k) (nI w) M = _
  unfold T_X4_fromOf_0
  simp only [hk0, hw0, hw3, ↓reduceIte, ↓gd_pos (fO67 hW), ↓bnd_of (r_67_4 hW), ei, ↓bnd2_of (show cal (n + 1) (fun zz => f_X10_at zz 71 (nI (k * 3 + w)) M) = _ from y)]
/-- behind the table: the class's line -/
theorem c_lineA (hW : Wd M) {x1 x2 x3 : Int32} (e : f_X10_numberLines (n + 1) 0 x1 M = some (0, M1)) (hW1 : Wd M1) (hN : LnC M1 c acc) (hx : ((∀ j, j < acc.length → x2 ≠ nI j) ∨ ∀ j, j ≤ 4 → x3 ≠ nI j)) : f_X10_line (n + 2) 0 x1 x2 x3 M = some (-2, M1) := by
  have hl := hN.2.1
  obtain ⟨m, hm⟩ : ∃ m, m = n + 1 := ⟨_, rfl⟩
  rw [← hm] at e
  rw [show n + 2 = m + 1 by omega]
  show T_X10_line_0 (fun v M => some (v, M)) none (m + 1) 0 x1 x2 x3 M = _
  unfold T_X10_line_0
  rcases in_len (x := x2) (n := acc.length) (by omega) with ⟨j, hj, e2⟩ | ⟨-, h2⟩
  · have h4 : ∀ j, j ≤ 4 → x3 ≠ nI j := by
      rcases hx with hx | hx
      · exact absurd e2 (hx j hj)
      · exact hx
    have hn0 : (x2 < (0 : Int32)) = False := by rw [e2]; exact nI_lt0 (by omega)
    have hle : (nI acc.length ≤ x2) = False := eq_false (by rw [e2, nI_le_ (by omega) (by omega)]; omega)
    rcases what_no (by omega) h4 with g | ⟨g1, g2⟩
    · simp only [↓gd_pos (fO_0 hW), ↓bnd2_of (show cal (m + 1) (fun zz => f_X10_numberLines zz 0 x1 M) = _ from e), ↓reduceIte, hn0, ↓gd_pos (fO_0 hW1), ↓bnd_of (r_0_10 hW1), ↓gd_pos (fO67 hW1), hN.1, hle, g]
    · have g2 : ¬ x3 ≤ 4 := g2
      simp only [↓gd_pos (fO_0 hW), ↓bnd2_of (show cal (m + 1) (fun zz => f_X10_numberLines zz 0 x1 M) = _ from e), ↓reduceIte, hn0, ↓gd_pos (fO_0 hW1), ↓bnd_of (r_0_10 hW1), ↓gd_pos (fO67 hW1), hN.1, hle, g1, g2]
  · rcases h2 with g | ⟨g1, g2, -⟩
    · simp only [↓gd_pos (fO_0 hW), ↓bnd2_of (show cal (m + 1) (fun zz => f_X10_numberLines zz 0 x1 M) = _ from e), ↓reduceIte, g]
    · simp only [↓gd_pos (fO_0 hW), ↓bnd2_of (show cal (m + 1) (fun zz => f_X10_numberLines zz 0 x1 M) = _ from e), ↓reduceIte, g1, ↓gd_pos (fO_0 hW1), ↓bnd_of (r_0_10 hW1), ↓gd_pos (fO67 hW1), hN.1, g2]
theorem c_lineB (hW : Wd M) {x1 : Int32} (e : f_X10_numberLines (n + 1) 0 x1 M = some (0, M1)) (hW1 : Wd M1) (hN : LnC M1 c acc) {j w : Nat} (hj : j < acc.length) (hw : w ≤ 4) : f_X10_line (n + 2) 0 x1 (nI j) (nI w) M = some (LnV acc j w, M1) := by
  have hl := hN.2.1
  obtain ⟨q, hq⟩ : ∃ q, acc[j]? = some q := ⟨_, List.getElem?_eq_getElem hj⟩
  obtain ⟨b1, -, b3, b4⟩ := hN.2.2 j q hq
  rw [LnV_at hq]
  obtain ⟨m, hm⟩ : ∃ m, m = n + 1 := ⟨_, rfl⟩
  have y1 := c_ruleOf (n := n) hW1 (show j < 406 by omega)
  have y2 := c_deepOf (n := n) hW1 (show j < 406 by omega)
  rw [b1] at y1
  rw [b3] at y2
  rw [← hm] at e y1 y2
  rw [show n + 2 = m + 1 by omega]
  show T_X10_line_0 (fun v M => some (v, M)) none (m + 1) 0 x1 (nI j) (nI w) M = _
  unfold T_X10_line_0
  have hn0 : (nI j < (0 : Int32)) = False := nI_lt0 (by omega)
  have hle : (nI acc.length ≤ nI j) = False := eq_false (by rw [nI_le_ (by omega) (by omega)]; omega)
  have hw0 : (nI w < (0 : Int32)) = False := nI_lt0 (by omega)
  have hw4 : (nI w ≤ (4 : Int32)) = True := eq_true (by rw [show (4 : Int32) = nI 4 from rfl, nI_le_ (by omega) (by omega)]; exact hw)
  by_cases w0 : w = 0
  · have q0 : (nI w = (0 : Int32)) = True := eq_true (by rw [w0]; rfl)
    rw [if_pos w0]
    simp only [↓gd_pos (fO_0 hW), ↓bnd2_of (show cal (m + 1) (fun zz => f_X10_numberLines zz 0 x1 M) = _ from e), ↓reduceIte, hn0, ↓gd_pos (fO_0 hW1), ↓bnd_of (r_0_10 hW1), ↓gd_pos (fO67 hW1), hN.1, hle, hw0, hw4, q0, ↓bnd2_of (show cal (m + 1) (fun zz => f_X4_ruleOf zz 67 (nI j) M1) = _ from y1)]
  · have q0 : (nI w = (0 : Int32)) = False := eq_false (fun z => w0 ((nI_eq (b := 0) (by omega) (by omega)).mp z))
    rw [if_neg w0]
    by_cases w4 : w = 4
    · have q4 : (nI w = (4 : Int32)) = True := eq_true (by rw [w4]; rfl)
      rw [if_pos w4]
      simp only [↓gd_pos (fO_0 hW), ↓bnd2_of (show cal (m + 1) (fun zz => f_X10_numberLines zz 0 x1 M) = _ from e), ↓reduceIte, hn0, ↓gd_pos (fO_0 hW1), ↓bnd_of (r_0_10 hW1), ↓gd_pos (fO67 hW1), hN.1, hle, hw0, hw4, q0, q4, ↓bnd2_of (show cal (m + 1) (fun zz => f_X4_deepOf zz 67 (nI j) M1) = _ from y2)]
    · have q4 : (nI w = (4 : Int32)) = False := eq_false (fun z => w4 ((nI_eq (b := 4) (by omega) (by omega)).mp z))
      have y3 := c_fromOf (n := n) hW1 (show j < 406 by omega) (show w - 1 < 3 by omega)
      rw [b4 (w - 1) (by omega), ← hm] at y3
      have hs : nI w - 1 = nI (w - 1) := nI_sub (b := 1) (by omega) (by omega)
      rw [if_neg w4]
      simp only [↓gd_pos (fO_0 hW), ↓bnd2_of (show cal (m + 1) (fun zz => f_X10_numberLines zz 0 x1 M) = _ from e), ↓reduceIte, hn0, ↓gd_pos (fO_0 hW1), ↓bnd_of (r_0_10 hW1), ↓gd_pos (fO67 hW1), hN.1, hle, hw0, hw4, q0, q4, hs, ↓bnd2_of (show cal (m + 1) (fun zz => f_X4_fromOf zz 67 (nI j) (nI (w - 1)) M1) = _ from y3)]
/-- refused calls of the class -/
theorem c_lineN (hW : Wd M) {x1 : Int32} (x2 x3 : Int32) {v : Int32} (hv : v ≠ 0) (e : f_X10_numberLines (n + 1) 0 x1 M = some (v, M)) : f_X10_line (n + 2) 0 x1 x2 x3 M = some (v, M) ∧ f_X10_lineByte (n + 2) 0 x1 x2 x3 M = some (v, M) ∧ f_X10_lines (n + 2) 0 x1 M = some (v, M) := by
  obtain ⟨m, hm⟩ : ∃ m, m = n + 1 := ⟨_, rfl⟩
  rw [← hm] at e
  rw [show n + 2 = m + 1 by omega]
  have hv' : (v = 0) = False := eq_false hv
  refine ⟨?_, ?_, ?_⟩
  · show T_X10_line_0 (fun v M => some (v, M)) none (m + 1) 0 x1 x2 x3 M = _
    unfold T_X10_line_0
    simp only [↓gd_pos (fO_0 hW), ↓bnd2_of (show cal (m + 1) (fun zz => f_X10_numberLines zz 0 x1 M) = _ from e), hv', ↓reduceIte]
  · show T_X10_lineByte_0 (fun v M => some (v, M)) none (m + 1) 0 x1 x2 x3 M = _
    unfold T_X10_lineByte_0
    simp only [↓gd_pos (fO_0 hW), ↓bnd2_of (show cal (m + 1) (fun zz => f_X10_numberLines zz 0 x1 M) = _ from e), hv', ↓reduceIte]
  · show T_X10_lines_0 (fun v M => some (v, M)) none (m + 1) 0 x1 M = _
    unfold T_X10_lines_0
    simp only [↓gd_pos (fO_0 hW), ↓bnd2_of (show cal (m + 1) (fun zz => f_X10_numberLines zz 0 x1 M) = _ from e), hv', ↓reduceIte]
theorem c_linesA (hW : Wd M) {x1 : Int32} (e : f_X10_numberLines (n + 1) 0 x1 M = some (0, M1)) (hW1 : Wd M1) (hN : LnC M1 c acc) : f_X10_lines (n + 2) 0 x1 M = some (nI acc.length, M1) := by
  obtain ⟨m, hm⟩ : ∃ m, m = n + 1 := ⟨_, rfl⟩
  rw [← hm] at e
  rw [show n + 2 = m + 1 by omega]
  show T_X10_lines_0 (fun v M => some (v, M)) none (m + 1) 0 x1 M = _
  unfold T_X10_lines_0
  simp only [↓gd_pos (fO_0 hW), ↓bnd2_of (show cal (m + 1) (fun zz => f_X10_numberLines zz 0 x1 M) = _ from e), ↓reduceIte, ↓gd_pos (fO_0 hW1), ↓bnd_of (r_0_10 hW1), ↓gd_pos (fO67 hW1), hN.1]
/-- a line's byte in the class -/
theorem c_lbA (hW : Wd M) {x1 x2 x3 : Int32} (e : f_X10_numberLines (n + 1) 0 x1 M = some (0, M1)) (hW1 : Wd M1) (hN : LnC M1 c acc) : ((∀ j, j < acc.length → x2 ≠ nI j) → f_X10_lineByte (n + 2) 0 x1 x2 x3 M = some (-2, M1)) ∧ ∀ j, j < acc.length → x2 = nI j → (¬ 0 ≤ x3 → f_X10_lineByte (n + 2) 0 x1 x2 x3 M = some (-3, M1)) ∧ ∀ q en, q < 2147483648 → x3 = nI q → acc[j]? = some en → TabC M1 c → blen en.2.1 < 4611686018427387904 → 7 ≤ n → f_X10_lineByte (n + 2) 0 x1 x2 x3 M = some (gtN (fsp en.2.1) q, M1) := by
  have hl := hN.2.1
  obtain ⟨m, hm⟩ : ∃ m, m = n + 1 := ⟨_, rfl⟩
  rw [← hm] at e
  rw [show n + 2 = m + 1 by omega]
  have ee : f_X10_lineByte (m + 1) 0 x1 x2 x3 M = T_X10_lineByte_0 (fun v M => some (v, M)) none (m + 1) 0 x1 x2 x3 M := rfl
  rw [ee]
  refine ⟨fun hx => ?_, fun j hj hx2 => ⟨fun hx3 => ?_, fun q en hq hx3 hen hT hb hn => ?_⟩⟩
  · unfold T_X10_lineByte_0
    rcases in_len (x := x2) (n := acc.length) (by omega) with ⟨j, hj, e2⟩ | ⟨-, h2⟩
    · exact absurd e2 (hx j hj)
    · rcases h2 with g | ⟨g1, -, g2⟩
      · simp only [↓gd_pos (fO_0 hW), ↓bnd2_of (show cal (m + 1) (fun zz => f_X10_numberLines zz 0 x1 M) = _ from e), ↓reduceIte, g]
      · simp only [↓gd_pos (fO_0 hW), ↓bnd2_of (show cal (m + 1) (fun zz => f_X10_numberLines zz 0 x1 M) = _ from e), ↓reduceIte, g1, ↓gd_pos (fO_0 hW1), ↓bnd_of (r_0_10 hW1), ↓gd_pos (fO67 hW1), hN.1, g2]
  · subst hx2
    have hn0 : (nI j < (0 : Int32)) = False := nI_lt0 (by omega)
    have hlt : (nI j < nI acc.length) = True := eq_true (by rw [nI_lt_ (by omega) (by omega)]; exact hj)
    unfold T_X10_lineByte_0
    simp only [↓gd_pos (fO_0 hW), ↓bnd2_of (show cal (m + 1) (fun zz => f_X10_numberLines zz 0 x1 M) = _ from e), ↓reduceIte, hn0, ↓gd_pos (fO_0 hW1), ↓bnd_of (r_0_10 hW1), ↓gd_pos (fO67 hW1), hN.1, hlt, hx3]
  · subst hx2
    have hn0 : (nI j < (0 : Int32)) = False := nI_lt0 (by omega)
    have hlt : (nI j < nI acc.length) = True := eq_true (by rw [nI_lt_ (by omega) (by omega)]; exact hj)
    have hge : ((0 : Int32) ≤ nI q) = True := eq_true (by rw [show (0 : Int32) = nI 0 from rfl, nI_le_ (by omega) (by omega)]; omega)
    obtain ⟨-, ⟨v, v1, v2, v3⟩, -, -⟩ := hN.2.2 j en hen
    have y1 := c_formulaOf4 (n := n) hW1 (show j < 406 by omega)
    rw [v2, ← hm] at y1
    have y2 := c_byteAt hW1 hT (m - 6) (r := q) v1 (by rw [v3]; exact hb) (by omega)
    rw [show m - 6 + 6 = m by omega, v3] at y2
    subst hx3
    have hO2 := fO_2 hW1
    unfold T_X10_lineByte_0
    simp (disch := omega) only [↓gd_pos (fO_0 hW), ↓bnd2_of (show cal (m + 1) (fun zz => f_X10_numberLines zz 0 x1 M) = _ from e), ↓reduceIte, hn0, ↓gd_pos (fO_0 hW1), ↓bnd_of (r_0_10 hW1), ↓gd_pos (fO67 hW1), hN.1, hlt, hge, ↓bnd_of (r_0_2 hW1), ↓bnd2_of (show cal (m + 1) (fun zz => f_X4_formulaOf zz 67 (nI j) M1) = _ from y1), ↓gd_pos hO2, nI_long, ↓bnd2_of (show cal (m + 1) (fun zz => f_X1_byteAt zz 2 (nI v) (lN q) M1) = _ from y2)]
end CL2
