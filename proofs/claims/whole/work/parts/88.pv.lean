/-! ASK in the class: what a node proves, by those in it -/
section PV
variable {M : Mem} {tr c : Nat} {l : List (Nat × Tm)}
theorem c_at46 (hW : Wd M) (k : Nat) {i : Nat} (hi : i < 200) : f_X10_at k 46 (nI i) M = some (M.2.2.1 46 i, M) := by
  have e : aLen M 46 = some 200 := by simp [aLen, W_40 hW]
  unfold f_X10_at b_X10_at
  simp (disch := omega) only [T_X10_at_0, nI_lt0, if_false, e, bnd_s, show Int32.ofNat 200 = nI 200 from rfl, nI_le_, W_40 hW, gd_true, fA, ex_in, Nat.reduceLT, true_and, and_self, nI_z, vp_iff]
  rw [if_neg (by omega), gd_pos (by omega)]
theorem RowC.told (h : RowC M tr c l) {p : Nat} (hp : p < l.length) (ho : tf (opl l p)) : ∃ i, i < c ∧ M.2.2.1 (tr + 2) p = nI i ∧ dC M i = lbl l p := (h.ag hp).2.1 ho
set_option maxHeartbeats 2000000 in
theorem pv_U (hL : LtC M tr c l) (hTb : TabC M c) (k : Nat) {p v : Nat} {x : Fm} (hp : p + 1 < l.length) (hv : v < c) (e : M.2.2.1 48 (p + 1) = nI v) (hr : rU (opl l p) (lbl l p) (dC M v) x) (hc : c < 5200 ∨ ∃ i, i < c ∧ dC M i = x) : PvE M c (f_X3_provenBy (k + 2) 40 (nI p) M) x := by
  obtain ⟨n, hn⟩ : ∃ n, n = k + 1 := ⟨_, rfl⟩
  rw [show k + 2 = n + 1 by omega]
  obtain ⟨hW, hr2, hT, hR⟩ := hL
  have t1 := (TO_at hW hT).1
  have t6 := (TO_at hW hT).2.2.2.2.2.1
  have hO : fO M 40 3 := ⟨by rw [hW.1]; omega, s_40 hW⟩
  have hOt : fO M tr 9 := ⟨by rw [hW.1]; exact t6, t1⟩
  have hO2 : fO M 2 1 := ⟨by rw [hW.1]; omega, s_2 hW⟩
  have h2 := hR.2.1
  have h5 := hTb.2.1
  have e7 := c_argAt hW hT hR n (i := p) (by omega)
  have e14 := c_typeOf hW n (i := p + 1) (by omega)
  rw [e, ← nI_1] at e14
  obtain ⟨v21, e21⟩ := c_endOf_tot hW n (nI p + 1)
  obtain ⟨v28, e28⟩ := c_typeOf_tot hW n v21
  have eo := c_opAt hW hT hR n (i := p) (by omega)
  unfold f_X3_provenBy b_X3_provenBy
  unfold T_X3_provenBy_0
  rcases hr with ⟨ho, hx⟩ | ⟨ho, w, hx⟩ | ⟨ho, w, hx⟩ | ⟨ho, hx⟩ | ⟨ho, hx⟩ | ⟨ho, hy, hx⟩
  · obtain ⟨i, hi, ei, di⟩ := hR.told (p := p) (by omega) (Or.inl ho)
    obtain ⟨f, c1, M1, em, q1, q2, q3, q4, q5, q6, q7, q8⟩ := c_make hW hTb k (j := 9) (by omega) (by omega) hi hv (by rw [di]; rw [hx] at hc; exact hc)
    rw [di] at q5 q8
    replace em : f_X1_make n 2 9 (M.2.2.1 (tr + 2) p) (nI v) M = some (nI f, M1) := by rw [ei, hn]; exact em
    refine ⟨f, c1, M1, ?_, q1, q2, q3, q4, q5.trans hx.symm, q6, q7, fun q => q8 (by rw [hx] at q; exact q)⟩
    simp (disch := omega) only [↓reduceIte, ↓gd_pos hO, ↓gd_pos hOt, ↓gd_pos hO2, ↓bnd_of hr2, ↓bnd_of (r_40_0 hW), ↓bnd2_of (show cal (n + 1) (fun n => f_X9_argAt n tr (nI p) M) = _ from e7), ↓bnd2_of (show cal (n + 1) (fun n => f_X3_typeOf n 40 (nI p + 1) M) = _ from e14), ↓bnd2_of (show cal (n + 1) (fun n => f_X3_endOf n 40 (nI p + 1) M) = _ from e21), ↓bnd2_of (show cal (n + 1) (fun n => f_X3_typeOf n 40 v21 M) = _ from e28), ↓bnd2_of (show cal (n + 1) (fun n => f_X9_opAt n tr (nI p) M) = _ from eo), show (2 : Int32) = nI 2 from rfl, nI_eq_, eq_true (show opl l p = 2 by omega), ↓bnd2_of (show cal (n + 1) (fun n => f_X1_make n 2 9 (M.2.2.1 (tr + 2) p) (nI v) M) = _ from em)]
  · obtain ⟨a, b, ha, hb, m4, m5, ea, eb⟩ := hTb.two hv (j := 10) (by omega) (by omega) hx
    have el := c_leftOf hW hTb n hv
    rw [m4] at el
    refine PvE.same hTb ha ea ?_
    simp (disch := omega) only [↓reduceIte, ↓gd_pos hO, ↓gd_pos hOt, ↓gd_pos hO2, ↓bnd_of hr2, ↓bnd_of (r_40_0 hW), ↓bnd2_of (show cal (n + 1) (fun n => f_X9_argAt n tr (nI p) M) = _ from e7), ↓bnd2_of (show cal (n + 1) (fun n => f_X3_typeOf n 40 (nI p + 1) M) = _ from e14), ↓bnd2_of (show cal (n + 1) (fun n => f_X3_endOf n 40 (nI p + 1) M) = _ from e21), ↓bnd2_of (show cal (n + 1) (fun n => f_X3_typeOf n 40 v21 M) = _ from e28), ↓bnd2_of (show cal (n + 1) (fun n => f_X9_opAt n tr (nI p) M) = _ from eo), show (2 : Int32) = nI 2 from rfl, show (3 : Int32) = nI 3 from rfl, show (4 : Int32) = nI 4 from rfl, show (5 : Int32) = nI 5 from rfl, nI_eq_, eq_false (show ¬ opl l p = 2 by omega), eq_false (show ¬ opl l p = 3 by omega), eq_false (show ¬ opl l p = 4 by omega), eq_true (show opl l p = 5 by omega), ↓bnd2_of (show cal (n + 1) (fun n => f_X1_leftOf n 2 (nI v) M) = _ from el)]
  · obtain ⟨a, b, ha, hb, m4, m5, ea, eb⟩ := hTb.two hv (j := 10) (by omega) (by omega) hx
    have el := c_rightOf hW hTb n hv
    rw [m5] at el
    refine PvE.same hTb hb eb ?_
    simp (disch := omega) only [↓reduceIte, ↓gd_pos hO, ↓gd_pos hOt, ↓gd_pos hO2, ↓bnd_of hr2, ↓bnd_of (r_40_0 hW), ↓bnd2_of (show cal (n + 1) (fun n => f_X9_argAt n tr (nI p) M) = _ from e7), ↓bnd2_of (show cal (n + 1) (fun n => f_X3_typeOf n 40 (nI p + 1) M) = _ from e14), ↓bnd2_of (show cal (n + 1) (fun n => f_X3_endOf n 40 (nI p + 1) M) = _ from e21), ↓bnd2_of (show cal (n + 1) (fun n => f_X3_typeOf n 40 v21 M) = _ from e28), ↓bnd2_of (show cal (n + 1) (fun n => f_X9_opAt n tr (nI p) M) = _ from eo), show (2 : Int32) = nI 2 from rfl, show (3 : Int32) = nI 3 from rfl, show (4 : Int32) = nI 4 from rfl, show (5 : Int32) = nI 5 from rfl, show (6 : Int32) = nI 6 from rfl, nI_eq_, eq_false (show ¬ opl l p = 2 by omega), eq_false (show ¬ opl l p = 3 by omega), eq_false (show ¬ opl l p = 4 by omega), eq_false (show ¬ opl l p = 5 by omega), eq_true (show opl l p = 6 by omega), ↓bnd2_of (show cal (n + 1) (fun n => f_X1_rightOf n 2 (nI v) M) = _ from el)]
  · obtain ⟨i, hi, ei, di⟩ := hR.told (p := p) (by omega) (Or.inr (Or.inl ho))
    obtain ⟨f, c1, M1, em, q1, q2, q3, q4, q5, q6, q7, q8⟩ := c_make hW hTb k (j := 11) (by omega) (by omega) hv hi (by rw [di]; rw [hx] at hc; exact hc)
    rw [di] at q5 q8
    replace em : f_X1_make n 2 11 (nI v) (M.2.2.1 (tr + 2) p) M = some (nI f, M1) := by rw [ei, hn]; exact em
    refine ⟨f, c1, M1, ?_, q1, q2, q3, q4, q5.trans hx.symm, q6, q7, fun q => q8 (by rw [hx] at q; exact q)⟩
    simp (disch := omega) only [↓reduceIte, ↓gd_pos hO, ↓gd_pos hOt, ↓gd_pos hO2, ↓bnd_of hr2, ↓bnd_of (r_40_0 hW), ↓bnd2_of (show cal (n + 1) (fun n => f_X9_argAt n tr (nI p) M) = _ from e7), ↓bnd2_of (show cal (n + 1) (fun n => f_X3_typeOf n 40 (nI p + 1) M) = _ from e14), ↓bnd2_of (show cal (n + 1) (fun n => f_X3_endOf n 40 (nI p + 1) M) = _ from e21), ↓bnd2_of (show cal (n + 1) (fun n => f_X3_typeOf n 40 v21 M) = _ from e28), ↓bnd2_of (show cal (n + 1) (fun n => f_X9_opAt n tr (nI p) M) = _ from eo), show (2 : Int32) = nI 2 from rfl, show (3 : Int32) = nI 3 from rfl, show (4 : Int32) = nI 4 from rfl, show (5 : Int32) = nI 5 from rfl, show (6 : Int32) = nI 6 from rfl, show (7 : Int32) = nI 7 from rfl, nI_eq_, eq_false (show ¬ opl l p = 2 by omega), eq_false (show ¬ opl l p = 3 by omega), eq_false (show ¬ opl l p = 4 by omega), eq_false (show ¬ opl l p = 5 by omega), eq_false (show ¬ opl l p = 6 by omega), eq_true (show opl l p = 7 by omega), ↓bnd2_of (show cal (n + 1) (fun n => f_X1_make n 2 11 (nI v) (M.2.2.1 (tr + 2) p) M) = _ from em)]
  · obtain ⟨i, hi, ei, di⟩ := hR.told (p := p) (by omega) (Or.inr (Or.inr (Or.inl ho)))
    obtain ⟨f, c1, M1, em, q1, q2, q3, q4, q5, q6, q7, q8⟩ := c_make hW hTb k (j := 11) (by omega) (by omega) hi hv (by rw [di]; rw [hx] at hc; exact hc)
    rw [di] at q5 q8
    replace em : f_X1_make n 2 11 (M.2.2.1 (tr + 2) p) (nI v) M = some (nI f, M1) := by rw [ei, hn]; exact em
    refine ⟨f, c1, M1, ?_, q1, q2, q3, q4, q5.trans hx.symm, q6, q7, fun q => q8 (by rw [hx] at q; exact q)⟩
    simp (disch := omega) only [↓reduceIte, ↓gd_pos hO, ↓gd_pos hOt, ↓gd_pos hO2, ↓bnd_of hr2, ↓bnd_of (r_40_0 hW), ↓bnd2_of (show cal (n + 1) (fun n => f_X9_argAt n tr (nI p) M) = _ from e7), ↓bnd2_of (show cal (n + 1) (fun n => f_X3_typeOf n 40 (nI p + 1) M) = _ from e14), ↓bnd2_of (show cal (n + 1) (fun n => f_X3_endOf n 40 (nI p + 1) M) = _ from e21), ↓bnd2_of (show cal (n + 1) (fun n => f_X3_typeOf n 40 v21 M) = _ from e28), ↓bnd2_of (show cal (n + 1) (fun n => f_X9_opAt n tr (nI p) M) = _ from eo), show (2 : Int32) = nI 2 from rfl, show (3 : Int32) = nI 3 from rfl, show (4 : Int32) = nI 4 from rfl, show (5 : Int32) = nI 5 from rfl, show (6 : Int32) = nI 6 from rfl, show (7 : Int32) = nI 7 from rfl, show (8 : Int32) = nI 8 from rfl, nI_eq_, eq_false (show ¬ opl l p = 2 by omega), eq_false (show ¬ opl l p = 3 by omega), eq_false (show ¬ opl l p = 4 by omega), eq_false (show ¬ opl l p = 5 by omega), eq_false (show ¬ opl l p = 6 by omega), eq_false (show ¬ opl l p = 7 by omega), eq_true (show opl l p = 8 by omega), ↓bnd2_of (show cal (n + 1) (fun n => f_X1_make n 2 11 (M.2.2.1 (tr + 2) p) (nI v) M) = _ from em)]
  · obtain ⟨i, hi, ei, di⟩ := hR.told (p := p) (by omega) (Or.inr (Or.inr (Or.inr ho)))
    refine PvE.same hTb hi (di.trans hx.symm) ?_
    simp (disch := omega) only [↓reduceIte, ↓gd_pos hO, ↓gd_pos hOt, ↓gd_pos hO2, ↓bnd_of hr2, ↓bnd_of (r_40_0 hW), ↓bnd2_of (show cal (n + 1) (fun n => f_X9_argAt n tr (nI p) M) = _ from e7), ↓bnd2_of (show cal (n + 1) (fun n => f_X3_typeOf n 40 (nI p + 1) M) = _ from e14), ↓bnd2_of (show cal (n + 1) (fun n => f_X3_endOf n 40 (nI p + 1) M) = _ from e21), ↓bnd2_of (show cal (n + 1) (fun n => f_X3_typeOf n 40 v21 M) = _ from e28), ↓bnd2_of (show cal (n + 1) (fun n => f_X9_opAt n tr (nI p) M) = _ from eo), show (2 : Int32) = nI 2 from rfl, show (3 : Int32) = nI 3 from rfl, show (4 : Int32) = nI 4 from rfl, show (5 : Int32) = nI 5 from rfl, show (6 : Int32) = nI 6 from rfl, show (7 : Int32) = nI 7 from rfl, show (8 : Int32) = nI 8 from rfl, show (9 : Int32) = nI 9 from rfl, show (10 : Int32) = nI 10 from rfl, nI_eq_, eq_false (show ¬ opl l p = 2 by omega), eq_false (show ¬ opl l p = 3 by omega), eq_false (show ¬ opl l p = 4 by omega), eq_false (show ¬ opl l p = 5 by omega), eq_false (show ¬ opl l p = 6 by omega), eq_false (show ¬ opl l p = 7 by omega), eq_false (show ¬ opl l p = 8 by omega), eq_false (show ¬ opl l p = 9 by omega), eq_true (show opl l p = 10 by omega)]
    rw [ei]
set_option maxHeartbeats 2000000 in
theorem pv_B (hL : LtC M tr c l) (hTb : TabC M c) (k : Nat) {p q v w : Nat} {x : Fm} (hp : p + 1 < l.length) (hq : q < 200) (hv : v < c) (hw : w < c) (eq : M.2.2.1 41 (p + 1) = nI q) (e : M.2.2.1 48 (p + 1) = nI v) (e2 : M.2.2.1 48 q = nI w) (hr : rB (opl l p) (dC M v) (dC M w) x) (hc : c < 5200 ∨ ∃ i, i < c ∧ dC M i = x) : PvE M c (f_X3_provenBy (k + 2) 40 (nI p) M) x := by
  obtain ⟨n, hn⟩ : ∃ n, n = k + 1 := ⟨_, rfl⟩
  rw [show k + 2 = n + 1 by omega]
  obtain ⟨hW, hr2, hT, hR⟩ := hL
  have t1 := (TO_at hW hT).1
  have t6 := (TO_at hW hT).2.2.2.2.2.1
  have hO : fO M 40 3 := ⟨by rw [hW.1]; omega, s_40 hW⟩
  have hOt : fO M tr 9 := ⟨by rw [hW.1]; exact t6, t1⟩
  have hO2 : fO M 2 1 := ⟨by rw [hW.1]; omega, s_2 hW⟩
  have h2 := hR.2.1
  have h5 := hTb.2.1
  have e7 := c_argAt hW hT hR n (i := p) (by omega)
  have e14 := c_typeOf hW n (i := p + 1) (by omega)
  rw [e, ← nI_1] at e14
  have e21 := c_endOf hW n (i := p + 1) (by omega)
  rw [eq, ← nI_1] at e21
  have e28 := c_typeOf hW n hq
  rw [e2] at e28
  have eo := c_opAt hW hT hR n (i := p) (by omega)
  unfold f_X3_provenBy b_X3_provenBy
  unfold T_X3_provenBy_0
  rcases hr with ⟨ho, hx⟩ | ⟨ho, hx⟩
  · obtain ⟨a, b, ha, hb, m4, m5, ea, eb⟩ := hTb.two hv (j := 9) (by omega) (by omega) hx
    have el := c_rightOf hW hTb n hv
    rw [m5] at el
    refine PvE.same hTb hb eb ?_
    simp (disch := omega) only [↓reduceIte, ↓gd_pos hO, ↓gd_pos hOt, ↓gd_pos hO2, ↓bnd_of hr2, ↓bnd_of (r_40_0 hW), ↓bnd2_of (show cal (n + 1) (fun n => f_X9_argAt n tr (nI p) M) = _ from e7), ↓bnd2_of (show cal (n + 1) (fun n => f_X3_typeOf n 40 (nI p + 1) M) = _ from e14), ↓bnd2_of (show cal (n + 1) (fun n => f_X3_endOf n 40 (nI p + 1) M) = _ from e21), ↓bnd2_of (show cal (n + 1) (fun n => f_X3_typeOf n 40 (nI q) M) = _ from e28), ↓bnd2_of (show cal (n + 1) (fun n => f_X9_opAt n tr (nI p) M) = _ from eo), show (2 : Int32) = nI 2 from rfl, show (3 : Int32) = nI 3 from rfl, nI_eq_, eq_false (show ¬ opl l p = 2 by omega), eq_true (show opl l p = 3 by omega), ↓bnd2_of (show cal (n + 1) (fun n => f_X1_rightOf n 2 (nI v) M) = _ from el)]
  · obtain ⟨f, c1, M1, em, q1, q2, q3, q4, q5, q6, q7, q8⟩ := c_make hW hTb k (j := 10) (by omega) (by omega) hv hw (by rw [hx] at hc; exact hc)
    replace em : f_X1_make n 2 10 (nI v) (nI w) M = some (nI f, M1) := by rw [hn]; exact em
    refine ⟨f, c1, M1, ?_, q1, q2, q3, q4, q5.trans hx.symm, q6, q7, fun q => q8 (by rw [hx] at q; exact q)⟩
    simp (disch := omega) only [↓reduceIte, ↓gd_pos hO, ↓gd_pos hOt, ↓gd_pos hO2, ↓bnd_of hr2, ↓bnd_of (r_40_0 hW), ↓bnd2_of (show cal (n + 1) (fun n => f_X9_argAt n tr (nI p) M) = _ from e7), ↓bnd2_of (show cal (n + 1) (fun n => f_X3_typeOf n 40 (nI p + 1) M) = _ from e14), ↓bnd2_of (show cal (n + 1) (fun n => f_X3_endOf n 40 (nI p + 1) M) = _ from e21), ↓bnd2_of (show cal (n + 1) (fun n => f_X3_typeOf n 40 (nI q) M) = _ from e28), ↓bnd2_of (show cal (n + 1) (fun n => f_X9_opAt n tr (nI p) M) = _ from eo), show (2 : Int32) = nI 2 from rfl, show (3 : Int32) = nI 3 from rfl, show (4 : Int32) = nI 4 from rfl, nI_eq_, eq_false (show ¬ opl l p = 2 by omega), eq_false (show ¬ opl l p = 3 by omega), eq_true (show opl l p = 4 by omega), ↓bnd2_of (show cal (n + 1) (fun n => f_X1_make n 2 10 (nI v) (nI w) M) = _ from em)]
set_option maxHeartbeats 2000000 in
theorem pv_C (hL : LtC M tr c l) (k : Nat) {p q w : Nat} (hp : p + 1 < l.length) (hq : q < 200) (ho : opl l p = 9) (eq : M.2.2.1 41 (p + 1) = nI q) (e2 : M.2.2.1 48 q = nI w) : f_X3_provenBy (k + 2) 40 (nI p) M = some (nI w, M) := by
  obtain ⟨n, hn⟩ : ∃ n, n = k + 1 := ⟨_, rfl⟩
  rw [show k + 2 = n + 1 by omega]
  obtain ⟨hW, hr2, hT, hR⟩ := hL
  have t1 := (TO_at hW hT).1
  have t6 := (TO_at hW hT).2.2.2.2.2.1
  have hO : fO M 40 3 := ⟨by rw [hW.1]; omega, s_40 hW⟩
  have hOt : fO M tr 9 := ⟨by rw [hW.1]; exact t6, t1⟩
  have h2 := hR.2.1
  have e7 := c_argAt hW hT hR n (i := p) (by omega)
  obtain ⟨v14, e14⟩ := c_typeOf_tot hW n (nI p + 1)
  have e21 := c_endOf hW n (i := p + 1) (by omega)
  rw [eq, ← nI_1] at e21
  have e28 := c_typeOf hW n hq
  rw [e2] at e28
  have eo := c_opAt hW hT hR n (i := p) (by omega)
  unfold f_X3_provenBy b_X3_provenBy
  unfold T_X3_provenBy_0
  simp (disch := omega) only [↓reduceIte, ↓gd_pos hO, ↓gd_pos hOt, ↓bnd_of hr2, ↓bnd2_of (show cal (n + 1) (fun n => f_X9_argAt n tr (nI p) M) = _ from e7), ↓bnd2_of (show cal (n + 1) (fun n => f_X3_typeOf n 40 (nI p + 1) M) = _ from e14), ↓bnd2_of (show cal (n + 1) (fun n => f_X3_endOf n 40 (nI p + 1) M) = _ from e21), ↓bnd2_of (show cal (n + 1) (fun n => f_X3_typeOf n 40 (nI q) M) = _ from e28), ↓bnd2_of (show cal (n + 1) (fun n => f_X9_opAt n tr (nI p) M) = _ from eo), show (2 : Int32) = nI 2 from rfl, show (3 : Int32) = nI 3 from rfl, show (4 : Int32) = nI 4 from rfl, show (5 : Int32) = nI 5 from rfl, show (6 : Int32) = nI 6 from rfl, show (7 : Int32) = nI 7 from rfl, show (8 : Int32) = nI 8 from rfl, show (9 : Int32) = nI 9 from rfl, nI_eq_, eq_false (show ¬ opl l p = 2 by omega), eq_false (show ¬ opl l p = 3 by omega), eq_false (show ¬ opl l p = 4 by omega), eq_false (show ¬ opl l p = 5 by omega), eq_false (show ¬ opl l p = 6 by omega), eq_false (show ¬ opl l p = 7 by omega), eq_false (show ¬ opl l p = 8 by omega), eq_true (show opl l p = 9 by omega)]
/-- what the arm of a level takes on -/
def TkO (M : Mem) (c : Nat) (l : List (Nat × Tm)) (lim q0 : Nat) (f : Fm) : Prop := q0 < 200 ∧ ∃ q r, q < l.length ∧ M.2.2.1 43 q0 = nI q ∧ M.2.2.1 44 q0 = nI r ∧ r < 10 ∧ ((opl l q = 2 ∧ lbl l q = f) ∨ (opl l q = 9 ∧ q + 1 < lim ∧ lim ≤ 200 ∧ ∃ v x y, v < c ∧ M.2.2.1 48 (q + 1) = nI v ∧ dC M v = .sub x y ∧ f = if r = 1 then x else y))
set_option maxHeartbeats 2000000 in
theorem c_takenOn (hL : LtC M tr c l) (hTb : TabC M c) (k : Nat) {lim q0 : Nat} {f : Fm} (h : TkO M c l lim q0 f) : ∃ v, v < c ∧ f_X3_takenOn (k + 1) 40 (nI q0) M = some (nI v, M) ∧ dC M v = f := by
  obtain ⟨hW, hr2, hT, hR⟩ := hL
  have t1 := (TO_at hW hT).1
  have t6 := (TO_at hW hT).2.2.2.2.2.1
  have hO : fO M 40 3 := ⟨by rw [hW.1]; omega, s_40 hW⟩
  have hOt : fO M tr 9 := ⟨by rw [hW.1]; exact t6, t1⟩
  have hO2 : fO M 2 1 := ⟨by rw [hW.1]; omega, s_2 hW⟩
  have h2 := hR.2.1
  have h5 := hTb.2.1
  obtain ⟨hq0, q, r, hq, e1, e2, hr, h⟩ := h
  have ho := hR.2.2.1.at_ hq
  have ep := c_parentOf hW k hq0
  rw [e1] at ep
  have eo := c_opAt hW hT hR k hq
  have er := c_rankOf hW k hq0
  rw [e2] at er
  unfold f_X3_takenOn b_X3_takenOn
  unfold T_X3_takenOn_0
  rcases h with ⟨h1, h3⟩ | ⟨h1, h3, h4, v, x, y, hv, e3, dv, hf⟩
  · obtain ⟨i, hi, ei, di⟩ := hR.told hq (Or.inl h1)
    have e7 := c_argAt hW hT hR k hq
    refine ⟨i, hi, ?_, di.trans h3⟩
    simp (disch := omega) only [↓reduceIte, ↓gd_pos hO, ↓gd_pos hOt, ↓bnd_of hr2, ↓bnd2_of (show cal (k + 1) (fun n => f_X3_parentOf n 40 (nI q0) M) = _ from ep), ↓bnd2_of (show cal (k + 1) (fun n => f_X9_opAt n tr (nI q) M) = _ from eo), show (2 : Int32) = nI 2 from rfl, nI_eq_, eq_true (show opl l q = 2 by omega), ↓bnd2_of (show cal (k + 1) (fun n => f_X9_argAt n tr (nI q) M) = _ from e7)]
    rw [ei]
  · obtain ⟨a, b, ha, hb, m4, m5, ea, eb⟩ := hTb.two hv (j := 11) (by omega) (by omega) dv
    have et := c_typeOf hW k (i := q + 1) (by omega)
    rw [e3, ← nI_1] at et
    have el := c_leftOf hW hTb k hv
    rw [m4] at el
    have er2 := c_rightOf hW hTb k hv
    rw [m5] at er2
    by_cases hr1 : r = 1
    · refine ⟨a, ha, ?_, by rw [hf, if_pos hr1]; exact ea⟩
      simp (disch := omega) only [↓reduceIte, ↓gd_pos hO, ↓gd_pos hOt, ↓gd_pos hO2, ↓bnd_of hr2, ↓bnd_of (r_40_0 hW), ↓bnd2_of (show cal (k + 1) (fun n => f_X3_parentOf n 40 (nI q0) M) = _ from ep), ↓bnd2_of (show cal (k + 1) (fun n => f_X9_opAt n tr (nI q) M) = _ from eo), show (2 : Int32) = nI 2 from rfl, show (1 : Int32) = nI 1 from rfl, nI_eq_, eq_false (show ¬ opl l q = 2 by omega), ↓bnd2_of (show cal (k + 1) (fun n => f_X3_typeOf n 40 (nI q + 1) M) = _ from et), ↓bnd2_of (show cal (k + 1) (fun n => f_X3_rankOf n 40 (nI q0) M) = _ from er), eq_true (show r = 1 by omega), ↓bnd2_of (show cal (k + 1) (fun n => f_X1_leftOf n 2 (nI v) M) = _ from el)]
    · refine ⟨b, hb, ?_, by rw [hf, if_neg hr1]; exact eb⟩
      simp (disch := omega) only [↓reduceIte, ↓gd_pos hO, ↓gd_pos hOt, ↓gd_pos hO2, ↓bnd_of hr2, ↓bnd_of (r_40_0 hW), ↓bnd2_of (show cal (k + 1) (fun n => f_X3_parentOf n 40 (nI q0) M) = _ from ep), ↓bnd2_of (show cal (k + 1) (fun n => f_X9_opAt n tr (nI q) M) = _ from eo), show (2 : Int32) = nI 2 from rfl, show (1 : Int32) = nI 1 from rfl, nI_eq_, eq_false (show ¬ opl l q = 2 by omega), ↓bnd2_of (show cal (k + 1) (fun n => f_X3_typeOf n 40 (nI q + 1) M) = _ from et), ↓bnd2_of (show cal (k + 1) (fun n => f_X3_rankOf n 40 (nI q0) M) = _ from er), eq_false (show ¬ r = 1 by omega), ↓bnd2_of (show cal (k + 1) (fun n => f_X1_rightOf n 2 (nI v) M) = _ from er2)]
set_option maxHeartbeats 2000000 in
theorem pv_L (hL : LtC M tr c l) (hTb : TabC M c) (k : Nat) {p j q0 lim : Nat} {f : Fm} (hp : p < l.length) (ho : opl l p = 1) (hj : lbl l p = .index j) (hj2 : j < 200) (e46 : M.2.2.1 46 p = nI q0) (h : TkO M c l lim q0 f) : PvE M c (f_X3_provenBy (k + 2) 40 (nI p) M) f := by
  obtain ⟨n, hn⟩ : ∃ n, n = k + 1 := ⟨_, rfl⟩
  rw [show k + 2 = n + 1 by omega]
  obtain ⟨v, hv, et, dv⟩ := c_takenOn hL hTb k h
  rw [← hn] at et
  obtain ⟨hW, hr2, hT, hR⟩ := hL
  have t1 := (TO_at hW hT).1
  have t6 := (TO_at hW hT).2.2.2.2.2.1
  have hO : fO M 40 3 := ⟨by rw [hW.1]; omega, s_40 hW⟩
  have hOt : fO M tr 9 := ⟨by rw [hW.1]; exact t6, t1⟩
  have h2 := hR.2.1
  have e7 := c_argAt hW hT hR n (i := p) (by omega)
  have ag := (hR.ag hp).1 ho
  rw [hj, show nv (opl l p, Jvm.Term.index j).2 = nI j from rfl] at ag
  rw [ag] at e7
  obtain ⟨v14, e14⟩ := c_typeOf_tot hW n (nI p + 1)
  obtain ⟨v21, e21⟩ := c_endOf_tot hW n (nI p + 1)
  obtain ⟨v28, e28⟩ := c_typeOf_tot hW n v21
  have eo := c_opAt hW hT hR n (i := p) (by omega)
  have ea := c_at46 hW n (i := p) (by omega)
  rw [e46] at ea
  unfold f_X3_provenBy b_X3_provenBy
  unfold T_X3_provenBy_0
  refine PvE.same hTb hv dv ?_
  have hz : ((0 : Int32) ≤ nI j) = True := eq_true (nI_pos' (by omega))
  simp (disch := omega) only [↓reduceIte, ↓gd_pos hO, ↓gd_pos hOt, ↓bnd_of hr2, ↓bnd_of (r_40_8 hW), ↓bnd2_of (show cal (n + 1) (fun n => f_X9_argAt n tr (nI p) M) = _ from e7), ↓bnd2_of (show cal (n + 1) (fun n => f_X3_typeOf n 40 (nI p + 1) M) = _ from e14), ↓bnd2_of (show cal (n + 1) (fun n => f_X3_endOf n 40 (nI p + 1) M) = _ from e21), ↓bnd2_of (show cal (n + 1) (fun n => f_X3_typeOf n 40 v21 M) = _ from e28), ↓bnd2_of (show cal (n + 1) (fun n => f_X9_opAt n tr (nI p) M) = _ from eo), show (2 : Int32) = nI 2 from rfl, show (3 : Int32) = nI 3 from rfl, show (4 : Int32) = nI 4 from rfl, show (5 : Int32) = nI 5 from rfl, show (6 : Int32) = nI 6 from rfl, show (7 : Int32) = nI 7 from rfl, show (8 : Int32) = nI 8 from rfl, show (9 : Int32) = nI 9 from rfl, show (10 : Int32) = nI 10 from rfl, nI_eq_, eq_false (show ¬ opl l p = 2 by omega), eq_false (show ¬ opl l p = 3 by omega), eq_false (show ¬ opl l p = 4 by omega), eq_false (show ¬ opl l p = 5 by omega), eq_false (show ¬ opl l p = 6 by omega), eq_false (show ¬ opl l p = 7 by omega), eq_false (show ¬ opl l p = 8 by omega), eq_false (show ¬ opl l p = 9 by omega), eq_false (show ¬ opl l p = 10 by omega), hz, ↓bnd2_of (show cal (n + 1) (fun n => f_X10_at n 46 (nI p) M) = _ from ea), ↓bnd2_of (show cal (n + 1) (fun n => f_X3_takenOn n 40 (nI q0) M) = _ from et)]
theorem hy_hy {j : Nat} (h : j < 2147483648) : (-1 : Int32) - (-1 - nI j) = nI j := by
  apply Int32.toInt_inj.mp
  rw [Int32.toInt_sub, hy_toInt h, nI_toInt (by omega), show (-1 : Int32).toInt = -1 from rfl, Int.bmod_eq_of_le]
  · omega
  · omega
  · omega
theorem c_formulaOf10 (hW : Wd M) (k : Nat) {Hl : List (Nat × Fm)} (hH : HyC M 10 c Hl) {j : Nat} (hj : j < Hl.length) : f_X2_formulaOf k 10 (nI j) M = some (M.2.2.1 12 j, M) := by
  have h6 := hH.2.1
  unfold f_X2_formulaOf b_X2_formulaOf
  simp (disch := omega) only [T_X2_formulaOf_0, nI_lt0, if_false, W_10 hW, gd_true, fO, fA, ex_in, bnd_s, Nat.reduceLT, true_and, and_self, hH.1, nI_le_, show (6 : Int32) = nI 6 from rfl, nI_z, vp_iff]
  rw [if_neg (by omega), if_neg (by omega), gd_pos (by omega)]
set_option maxHeartbeats 2000000 in
theorem pv_H (hL : LtC M tr c l) (hTb : TabC M c) {Hl : List (Nat × Fm)} (hH : HyC M 10 c Hl) (k : Nat) {p j : Nat} (hp : p < l.length) (ho : opl l p = 1) (hj : lbl l p = .arg j) (hj2 : j < Hl.length) : PvE M c (f_X3_provenBy (k + 2) 40 (nI p) M) Hl[j].2 := by
  obtain ⟨n, hn⟩ : ∃ n, n = k + 1 := ⟨_, rfl⟩
  rw [show k + 2 = n + 1 by omega]
  obtain ⟨hW, hr2, hT, hR⟩ := hL
  have t1 := (TO_at hW hT).1
  have t6 := (TO_at hW hT).2.2.2.2.2.1
  have hO : fO M 40 3 := ⟨by rw [hW.1]; omega, s_40 hW⟩
  have hOt : fO M tr 9 := ⟨by rw [hW.1]; exact t6, t1⟩
  have hO10 : fO M 10 2 := ⟨by rw [hW.1]; omega, s_10 hW⟩
  have h2 := hR.2.1
  have h6 := hH.2.1
  have e7 := c_argAt hW hT hR n (i := p) (by omega)
  have ag := (hR.ag hp).1 ho
  rw [hj, show nv (opl l p, Jvm.Term.arg j).2 = -1 - nI j from rfl] at ag
  obtain ⟨x, hx, ag2, hx2⟩ : ∃ x : Int32, ((0 : Int32) ≤ x) = False ∧ M.2.2.1 (tr + 2) p = x ∧ (-1 : Int32) - x = nI j := ⟨_, eq_false (Int32.not_le.mpr (hy_neg (k := j) (by omega))), ag, hy_hy (by omega)⟩
  clear ag
  rw [ag2] at e7
  obtain ⟨v, hv, -, ev, dv, -⟩ := hH.2.2 j hj2
  have ef := c_formulaOf10 hW n hH hj2
  rw [show M.2.2.1 12 j = nI v from ev] at ef
  have E : cal (n + 1) (fun n => f_X2_formulaOf n 10 ((-1) - x) M) = some (nI v, M) := by
    rw [cal_s, hx2]
    exact ef
  obtain ⟨v14, e14⟩ := c_typeOf_tot hW n (nI p + 1)
  obtain ⟨v21, e21⟩ := c_endOf_tot hW n (nI p + 1)
  obtain ⟨v28, e28⟩ := c_typeOf_tot hW n v21
  have eo := c_opAt hW hT hR n (i := p) (by omega)
  unfold f_X3_provenBy b_X3_provenBy
  unfold T_X3_provenBy_0
  refine PvE.same hTb hv dv ?_
  simp (disch := omega) only [↓reduceIte, ↓gd_pos hO, ↓gd_pos hOt, ↓gd_pos hO10, ↓bnd_of hr2, ↓bnd_of (r_40_1 hW), ↓bnd2_of (show cal (n + 1) (fun n => f_X9_argAt n tr (nI p) M) = _ from e7), ↓bnd2_of (show cal (n + 1) (fun n => f_X3_typeOf n 40 (nI p + 1) M) = _ from e14), ↓bnd2_of (show cal (n + 1) (fun n => f_X3_endOf n 40 (nI p + 1) M) = _ from e21), ↓bnd2_of (show cal (n + 1) (fun n => f_X3_typeOf n 40 v21 M) = _ from e28), ↓bnd2_of (show cal (n + 1) (fun n => f_X9_opAt n tr (nI p) M) = _ from eo), show (2 : Int32) = nI 2 from rfl, show (3 : Int32) = nI 3 from rfl, show (4 : Int32) = nI 4 from rfl, show (5 : Int32) = nI 5 from rfl, show (6 : Int32) = nI 6 from rfl, show (7 : Int32) = nI 7 from rfl, show (8 : Int32) = nI 8 from rfl, show (9 : Int32) = nI 9 from rfl, show (10 : Int32) = nI 10 from rfl, nI_eq_, eq_false (show ¬ opl l p = 2 by omega), eq_false (show ¬ opl l p = 3 by omega), eq_false (show ¬ opl l p = 4 by omega), eq_false (show ¬ opl l p = 5 by omega), eq_false (show ¬ opl l p = 6 by omega), eq_false (show ¬ opl l p = 7 by omega), eq_false (show ¬ opl l p = 8 by omega), eq_false (show ¬ opl l p = 9 by omega), eq_false (show ¬ opl l p = 10 by omega), hx, ↓bnd2_of E]
end PV
