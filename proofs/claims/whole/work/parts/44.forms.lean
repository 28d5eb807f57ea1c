/-! FORMULAS of the class: what is asked of one, and the making of one -/
def hC (x y z : Int32) : Int32 := ((((x * 31) + y) * 31) + z) &&& 1023
def HC (M : Mem) (j : Nat) : Int32 := hC (M.2.2.1 3 j) (M.2.2.1 4 j) (M.2.2.1 5 j)
def dC (M : Mem) (i : Nat) : Fm := dT (M.2.2.1 3) (M.2.2.1 4) (M.2.2.1 5) i
def TabC (M : Mem) (c : Nat) : Prop := M.2.2.1 2 7 = nI c ∧ (9 ≤ c ∧ c ≤ 5200) ∧ TbI c (M.2.2.1 3) (M.2.2.1 4) (M.2.2.1 5) ∧ TbD c (M.2.2.1 3) (M.2.2.1 4) (M.2.2.1 5) ∧ (∀ i, i < 9 → M.2.2.1 3 i = nI i) ∧ (∀ i, 9 ≤ i → i < c → 9 ≤ nz (M.2.2.1 3) i) ∧ (∀ h, h < 1024 → M.2.2.1 9 h = pvh (HC M) 9 (nI h) c) ∧ (∀ i, 9 ≤ i → i < c → M.2.2.1 7 i = pvh (HC M) 9 (HC M i) i) ∧ ∀ i, i < c → M.2.2.2.1 6 i = Int64.ofNat (blen (dC M i))
section CF
variable {M : Mem} {c : Nat}
theorem TabC.leaf (h : TabC M c) {i : Nat} (hi : i < 9) : dC M i = .arg i := dT_leaf h.2.2.1 (by have := h.2.1; omega) (by have := h.2.1; omega) hi (h.2.2.2.2.1 i hi)
theorem TabC.node (h : TabC M c) {i : Nat} (h9 : 9 ≤ i) (hi : i < c) : ∃ j a b, 9 ≤ j ∧ j ≤ 11 ∧ a < i ∧ b < i ∧ M.2.2.1 3 i = nI j ∧ M.2.2.1 4 i = nI a ∧ M.2.2.1 5 i = nI b ∧ dC M i = mkF j (dC M a) (dC M b) := by
  have hc := h.2.1
  rcases h.2.2.1 i hi with ⟨j, hj, e, -⟩ | ⟨j, a, b, h1, h2, ha, hb, e1, e2, e3⟩
  · have := h.2.2.2.2.2.1 i h9 hi
    rw [nz_of e (by omega)] at this
    omega
  · exact ⟨j, a, b, h1, h2, ha, hb, e1, e2, e3, dT_node h.2.2.1 (by omega) hi h1 h2 e1 e2 e3 ha hb⟩
theorem TabC.inj (h : TabC M c) {i j : Nat} (hi : i < c) (hj : j < c) (e : dC M i = dC M j) : i = j := dT_inj h.2.2.1 h.2.2.2.1 (by have := h.2.1; omega) (i + 1) i j (by omega) hi hj e
theorem c_kindOf (hW : Wd M) (hT : TabC M c) (n : Nat) {i : Nat} (hi : i < c) : f_X1_kindOf n 2 (nI i) M = some (M.2.2.1 3 i, M) := by
  have h5 := hT.2.1
  unfold f_X1_kindOf b_X1_kindOf
  simp (disch := omega) only [T_X1_kindOf_0, W_2 hW, hT.1, gd_true, fO, fA, ex_in, bnd_s, Nat.reduceLT, true_and, and_true, and_self, nI_lt0, nI_le_, nI_z, vp_iff, if_false]
  rw [if_neg (by omega), gd_pos (by omega)]
theorem c_leftOf (hW : Wd M) (hT : TabC M c) (n : Nat) {i : Nat} (hi : i < c) : f_X1_leftOf n 2 (nI i) M = some (M.2.2.1 4 i, M) := by
  have h5 := hT.2.1
  unfold f_X1_leftOf b_X1_leftOf
  simp (disch := omega) only [T_X1_leftOf_0, W_2 hW, hT.1, gd_true, fO, fA, ex_in, bnd_s, Nat.reduceLT, true_and, and_true, and_self, nI_lt0, nI_le_, nI_z, vp_iff, if_false]
  rw [if_neg (by omega), gd_pos (by omega)]
theorem c_rightOf (hW : Wd M) (hT : TabC M c) (n : Nat) {i : Nat} (hi : i < c) : f_X1_rightOf n 2 (nI i) M = some (M.2.2.1 5 i, M) := by
  have h5 := hT.2.1
  unfold f_X1_rightOf b_X1_rightOf
  simp (disch := omega) only [T_X1_rightOf_0, W_2 hW, hT.1, gd_true, fO, fA, ex_in, bnd_s, Nat.reduceLT, true_and, and_true, and_self, nI_lt0, nI_le_, nI_z, vp_iff, if_false]
  rw [if_neg (by omega), gd_pos (by omega)]
/-- of a number that is in the table as it is found in the cells: the bytes' row may have been written to elsewhere -/
theorem c_bytesOf0 (hW : Wd M) {c : Nat} (hm : M.2.2.1 2 7 = nI c) (h5 : c ≤ 5200) (n : Nat) {i : Nat} (hi : i < c) : f_X1_bytesOf n 2 (nI i) M = some (M.2.2.2.1 6 i, M) := by
  unfold f_X1_bytesOf b_X1_bytesOf
  simp (disch := omega) only [T_X1_bytesOf_0, W_2 hW, hm, gd_true, fO, fA, ex_in, bnd_s, Nat.reduceLT, true_and, and_true, and_self, nI_lt0, nI_le_, nI_z, vp_iff, if_false]
  rw [if_neg (by omega), gd_pos (by omega)]
theorem c_kindOf1 (n : Nat) : f_X1_kindOf n 2 (-1) M = some (-1, M) := by
  unfold f_X1_kindOf b_X1_kindOf
  simp only [T_X1_kindOf_0, m1_lt0, if_true]
theorem c_leftOf1 (n : Nat) : f_X1_leftOf n 2 (-1) M = some (-1, M) := by
  unfold f_X1_leftOf b_X1_leftOf
  simp only [T_X1_leftOf_0, m1_lt0, if_true]
theorem c_rightOf1 (n : Nat) : f_X1_rightOf n 2 (-1) M = some (-1, M) := by
  unfold f_X1_rightOf b_X1_rightOf
  simp only [T_X1_rightOf_0, m1_lt0, if_true]
theorem c_bytesOf1 (n : Nat) : f_X1_bytesOf n 2 (-1) M = some (0, M) := by
  unfold f_X1_bytesOf b_X1_bytesOf
  simp only [T_X1_bytesOf_0, m1_lt0, if_true]
theorem wlF_nI (k : Nat) (hk : k < 22) : ∃ z, z < 6 ∧ wlF k = nI z := by
  have h := (show ∀ k, k < 22 → (wlF k).toNatClampNeg < 6 ∧ wlF k = nI (wlF k).toNatClampNeg by decide +kernel) k hk
  exact ⟨_, h.1, h.2⟩
theorem c_wordLength (n : Nat) {k : Nat} (hk : k < 22) : f_X10_wordLength n (nI k) M = some (wlF k, M) := by
  unfold f_X10_wordLength b_X10_wordLength
  simp (disch := omega) only [T_X10_wordLength_0, nI_lt0, if_false, show (22 : Int32) = nI 22 from rfl, nI_le_, nI_z, vp_iff]
  rw [if_neg (by omega), gd_pos (by omega)]
set_option maxHeartbeats 4000000 in
theorem make_loop (hW : Wd M) (hT : TabC M c) (n : Nat) {j a b h : Nat} (hh : nI h = hC (nI j) (nI a) (nI b)) : ∀ (z t : Nat), t + z ≤ c →
    (∀ i, 9 ≤ i → i < z → M.2.2.1 3 i = nI j → M.2.2.1 4 i = nI a → M.2.2.1 5 i = nI b → lp (st_X1_make n) (29, [.ref 2, .int (nI j), .int (nI a), .int (nI b), .int (nI h), .int (pvh (HC M) 9 (nI h) z), .int (nI t)], M) = some (nI i, M)) ∧
    ((∀ i, 9 ≤ i → i < z → ¬ (M.2.2.1 3 i = nI j ∧ M.2.2.1 4 i = nI a ∧ M.2.2.1 5 i = nI b)) → lp (st_X1_make n) (29, [.ref 2, .int (nI j), .int (nI a), .int (nI b), .int (nI h), .int (pvh (HC M) 9 (nI h) z), .int (nI t)], M) = lp (st_X1_make n) (102, [.ref 2, .int (nI j), .int (nI a), .int (nI b), .int (nI h)], M)) := by
  intro z
  induction z using Nat.strongRecOn with
  | ind z ih =>
    intro t htz
    have h5 := hT.2.1
    have hm : ∀ i, M.2.2.1 3 i = nI j → M.2.2.1 4 i = nI a → M.2.2.1 5 i = nI b → HC M i = nI h := fun i e1 e2 e3 => by unfold HC; rw [e1, e2, e3, hh]
    rcases pvh_cases (H := HC M) (lo := 9) (h := nI h) z with ⟨e, hno⟩ | ⟨s, hs, h9, hHs, e, hno⟩
    · constructor
      · intro i hi hiz e1 e2 e3
        exact (hno i hiz hi (hm i e1 e2 e3)).elim
      · intro _
        refine (ge_X1_make_29 n 2 (nI j) (nI a) (nI b) (nI h) (pvh (HC M) 9 (nI h) z) (nI t) M).trans ?_
        rw [e]
        simp only [T_X1_make_29, m1_lt0, if_true, ite_self]
    · have hch : M.2.2.1 7 s = pvh (HC M) 9 (nI h) s := by rw [hT.2.2.2.2.2.2.2.1 s h9 (by omega), hHs]
      have step : lp (st_X1_make n) (29, [.ref 2, .int (nI j), .int (nI a), .int (nI b), .int (nI h), .int (pvh (HC M) 9 (nI h) z), .int (nI t)], M) = if M.2.2.1 3 s = nI j ∧ M.2.2.1 4 s = nI a ∧ M.2.2.1 5 s = nI b then some (nI s, M) else lp (st_X1_make n) (29, [.ref 2, .int (nI j), .int (nI a), .int (nI b), .int (nI h), .int (pvh (HC M) 9 (nI h) s), .int (nI (t + 1))], M) := by
        refine (ge_X1_make_29 n 2 (nI j) (nI a) (nI b) (nI h) (pvh (HC M) 9 (nI h) z) (nI t) M).trans ?_
        rw [e]
        simp (disch := omega) only [T_X1_make_29, W_2 hW, hT.1, gd_true, fO, fA, ex_in, bnd_s, Nat.reduceLT, true_and, and_true, and_self, nI_lt0, nI_le_, nI_z, vp_iff, if_false, show (5200 : Int32) = nI 5200 from rfl, hch, nI_1]
        rw [if_neg (by omega), if_neg (by omega), gd_pos (by omega), gd_pos (by omega), gd_pos (by omega), gd_pos (by omega)]
        by_cases q1 : M.2.2.1 3 s = nI j
        · by_cases q2 : M.2.2.1 4 s = nI a
          · by_cases q3 : M.2.2.1 5 s = nI b
            · rw [if_pos q1, if_pos q2, if_pos q3, if_pos ⟨q1, q2, q3⟩]
            · rw [if_pos q1, if_pos q2, if_neg q3, if_neg (fun q => q3 q.2.2)]
          · rw [if_pos q1, if_neg q2, if_neg (fun q => q2 q.2.1)]
        · rw [if_neg q1, if_neg (fun q => q1 q.1)]
      have ih' := ih s hs (t + 1) (by omega)
      constructor
      · intro i hi hiz e1 e2 e3
        rw [step]
        by_cases q : M.2.2.1 3 s = nI j ∧ M.2.2.1 4 s = nI a ∧ M.2.2.1 5 s = nI b
        · rw [if_pos q, hT.2.2.2.1 i s (by omega) (by omega) (e1.trans q.1.symm) (e2.trans q.2.1.symm) (e3.trans q.2.2.symm)]
        · rw [if_neg q]
          have his : i < s := by
            apply Nat.lt_of_not_le
            intro hle
            by_cases hq : i = s
            · subst hq
              exact q ⟨e1, e2, e3⟩
            · exact hno i (by omega) hiz (hm i e1 e2 e3)
          exact ih'.1 i hi his e1 e2 e3
      · intro hnone
        rw [step, if_neg (hnone s h9 hs)]
        exact ih'.2 (fun i hi his => hnone i hi (by omega))
theorem blen_mk {j : Nat} (h1 : 9 ≤ j) (h2 : j ≤ 11) (x y : Fm) : Int64.ofNat (blen (mkF j x y)) = ((Int32.toInt64 (wlF j + 2)) + Int64.ofNat (blen x)) + Int64.ofNat (blen y) := by
  have e9 : (Int32.toInt64 (wlF 9 + 2)) = Int64.ofNat 5 := by decide +kernel
  have e10 : (Int32.toInt64 (wlF 10 + 2)) = Int64.ofNat 5 := by decide +kernel
  have e11 : (Int32.toInt64 (wlF 11 + 2)) = Int64.ofNat 4 := by decide +kernel
  have hj : j = 9 ∨ j = 10 ∨ j = 11 := by omega
  rcases hj with rfl | rfl | rfl
  · rw [e9, ← Int64.ofNat_add, ← Int64.ofNat_add]
    rfl
  · rw [e10, ← Int64.ofNat_add, ← Int64.ofNat_add]
    rfl
  · rw [e11, ← Int64.ofNat_add, ← Int64.ofNat_add]
    rfl
abbrev mkM (M : Mem) (c j a b h : Nat) (z : Int64) : Mem := wI (wI (wI (wJ (wI (wI (wI M 3 c (nI j)) 4 c (nI a)) 5 c (nI b)) 6 c z) 7 c (M.2.2.1 9 h)) 9 h (nI c)) 2 7 (nI (c + 1))
set_option maxHeartbeats 4000000 in
theorem make_new (hW : Wd M) (hT : TabC M c) (n : Nat) {j a b h : Nat} (hc : c < 5200) (hj : 9 ≤ j) (hj2 : j ≤ 11) (ha : a < c) (hb : b < c) (hh : h < 1024) : lp (st_X1_make (n + 1)) (102, [.ref 2, .int (nI j), .int (nI a), .int (nI b), .int (nI h)], M) = some (nI c, mkM M c j a b h (Int64.ofNat (blen (mkF j (dC M a) (dC M b))))) := by
  have h5 := hT.2.1
  refine (ge_X1_make_102 (n + 1) 2 (nI j) (nI a) (nI b) (nI h) M).trans ?_
  have hW3 : Wd (wI (wI (wI M 3 c (nI j)) 4 c (nI a)) 5 c (nI b)) := ((hW.wI _ _ _).wI _ _ _).wI _ _ _
  have hm3 : (wI (wI (wI M 3 c (nI j)) 4 c (nI a)) 5 c (nI b)).2.2.1 2 7 = nI c := hT.1
  have e1 := c_wordLength (M := wI (wI (wI M 3 c (nI j)) 4 c (nI a)) 5 c (nI b)) n (k := j) (by omega)
  have e2 := c_bytesOf0 hW3 hm3 (by omega) n ha
  have e3 := c_bytesOf0 hW3 hm3 (by omega) n hb
  simp (disch := omega) only [T_X1_make_102, W_2 hW, hT.1, gd_true, fO, fA, ex_in, bnd_s, Nat.reduceLT, true_and, and_true, and_self, nI_lt0, nI_lt_, nI_z, vp_iff, show (5200 : Int32) = nI 5200 from rfl, nI_1, cal_s, e1, e2, e3, bnd2_s]
  rw [if_pos (by omega), gd_pos (by omega), gd_pos (by omega), gd_pos (by omega), gd_pos (by omega), gd_pos (by omega), gd_pos (by omega)]
  have ea := hT.2.2.2.2.2.2.2.2 a ha
  have eb := hT.2.2.2.2.2.2.2.2 b hb
  rw [blen_mk hj hj2, ← ea, ← eb]
  simp only [up2_if, Nat.reduceEqDiff, false_and, if_false, hT.1, nI_1]
theorem hC_nI (x y z : Int32) : ∃ h, h < 1024 ∧ hC x y z = nI h := by
  obtain ⟨h, h1, h2⟩ := pk_andE ((((x * 31) + y) * 31) + z) (m := 1023) 10 (by decide)
  exact ⟨h, h1, h2⟩
def SF (a k : Nat) : Prop := (a = 2 ∧ k = 7) ∨ a = 3 ∨ a = 4 ∨ a = 5 ∨ a = 6 ∨ a = 7 ∨ a = 9
set_option maxHeartbeats 4000000 in
theorem TabC.push (hT : TabC M c) {j a b h : Nat} (hc : c < 5200) (hj : 9 ≤ j) (hj2 : j ≤ 11) (ha : a < c) (hb : b < c) (hh : nI h = hC (nI j) (nI a) (nI b)) (hh2 : h < 1024) (hno : ∀ i, 9 ≤ i → i < c → ¬ (M.2.2.1 3 i = nI j ∧ M.2.2.1 4 i = nI a ∧ M.2.2.1 5 i = nI b)) {M1 : Mem} (hM : M1 = mkM M c j a b h (Int64.ofNat (blen (mkF j (dC M a) (dC M b))))) : TabC M1 (c + 1) ∧ dC M1 c = mkF j (dC M a) (dC M b) ∧ ∀ i, i < c → dC M1 i = dC M i := by
  have h5 := hT.2.1
  have r3 : ∀ i, M1.2.2.1 3 i = if i = c then nI j else M.2.2.1 3 i := fun i => by subst hM; simp [up2_if]
  have r4 : ∀ i, M1.2.2.1 4 i = if i = c then nI a else M.2.2.1 4 i := fun i => by subst hM; simp [up2_if]
  have r5 : ∀ i, M1.2.2.1 5 i = if i = c then nI b else M.2.2.1 5 i := fun i => by subst hM; simp [up2_if]
  have r6 : ∀ i, M1.2.2.2.1 6 i = if i = c then Int64.ofNat (blen (mkF j (dC M a) (dC M b))) else M.2.2.2.1 6 i := fun i => by subst hM; simp [up2_if]
  have r7 : ∀ i, M1.2.2.1 7 i = if i = c then M.2.2.1 9 h else M.2.2.1 7 i := fun i => by subst hM; simp [up2_if]
  have r9 : ∀ i, M1.2.2.1 9 i = if i = h then nI c else M.2.2.1 9 i := fun i => by subst hM; simp [up2_if]
  have r2 : M1.2.2.1 2 7 = nI (c + 1) := by subst hM; rfl
  clear hM
  have hk : ∀ i, i < c → M1.2.2.1 3 i = M.2.2.1 3 i ∧ M1.2.2.1 4 i = M.2.2.1 4 i ∧ M1.2.2.1 5 i = M.2.2.1 5 i := fun i hi => by
    rw [r3, r4, r5, if_neg (by omega), if_neg (by omega), if_neg (by omega)]
    exact ⟨rfl, rfl, rfl⟩
  have k3 : M1.2.2.1 3 c = nI j := by rw [r3, if_pos rfl]
  have k4 : M1.2.2.1 4 c = nI a := by rw [r4, if_pos rfl]
  have k5 : M1.2.2.1 5 c = nI b := by rw [r5, if_pos rfl]
  have tI := hT.2.2.1.push hk hj hj2 ha hb k3 k4 k5
  have hH : ∀ i, i < c → HC M1 i = HC M i := fun i hi => by
    obtain ⟨x, y, z⟩ := hk i hi
    unfold HC
    rw [x, y, z]
  have hHc : HC M1 c = nI h := by unfold HC; rw [k3, k4, k5, hh]
  have dold : ∀ i, i < c → dC M1 i = dC M i := fun i hi => dT_congr hT.2.2.1 (by omega) hk (i + 1) i (by omega) hi
  have dnew : dC M1 c = mkF j (dC M a) (dC M b) := by
    rw [← dold a ha, ← dold b hb]
    exact dT_node tI (by omega) (by omega) hj hj2 k3 k4 k5 ha hb
  refine ⟨⟨r2, ⟨by omega, by omega⟩, tI, ?_, fun i hi => ?_, fun i h9 hi => ?_, fun q hq => ?_, fun i h9 hi => ?_, fun i hi => ?_⟩, dnew, dold⟩
  · refine hT.2.2.2.1.push hk (fun i hi q => ?_)
    rw [k3, k4, k5] at q
    by_cases h9 : 9 ≤ i
    · exact hno i h9 hi q
    · have := hT.2.2.2.2.1 i (by omega)
      rw [q.1, nI_eq (by omega) (by omega)] at this
      omega
  · rw [r3, if_neg (by omega)]
    exact hT.2.2.2.2.1 i hi
  · by_cases e : i = c
    · subst e
      rw [nz_of k3 (by omega)]
      exact hj
    · unfold nz
      rw [r3, if_neg e]
      exact hT.2.2.2.2.2.1 i h9 (by omega)
  · rw [r9]
    by_cases e : q = h
    · subst e
      rw [if_pos rfl, ← hHc, pvh_same (by omega)]
    · rw [if_neg e, pvh_other (by rw [hHc]; intro x; exact e ((nI_eq (by omega) (by omega)).mp x).symm), pvh_congr hH]
      exact hT.2.2.2.2.2.2.1 q hq
  · rw [r7]
    by_cases e : i = c
    · subst e
      rw [if_pos rfl, hHc, pvh_congr hH]
      exact hT.2.2.2.2.2.2.1 h hh2
    · rw [if_neg e, hH i (by omega), pvh_congr (H := HC M) (fun j hj => hH j (by omega))]
      exact hT.2.2.2.2.2.2.2.1 i h9 (by omega)
  · rw [r6]
    by_cases e : i = c
    · subst e
      rw [if_pos rfl, dnew]
    · rw [if_neg e, dold i (by omega)]
      exact hT.2.2.2.2.2.2.2.2 i (by omega)
set_option maxHeartbeats 4000000 in
/-- THE MAKING: the number of a formula; a new one at most, and none if it is there -/
theorem c_make (hW : Wd M) (hT : TabC M c) (n : Nat) {j a b : Nat} (hj : 9 ≤ j) (hj2 : j ≤ 11) (ha : a < c) (hb : b < c) (hc : c < 5200 ∨ ∃ i, i < c ∧ dC M i = mkF j (dC M a) (dC M b)) :
    ∃ f c1 M1, f_X1_make (n + 1) 2 (nI j) (nI a) (nI b) M = some (nI f, M1) ∧ f < c1 ∧ c ≤ c1 ∧ c1 ≤ c + 1 ∧ TabC M1 c1 ∧ dC M1 f = mkF j (dC M a) (dC M b) ∧ (∀ i, i < c → dC M1 i = dC M i) ∧ Fr SF M M1 ∧ ((∃ i, i < c ∧ dC M i = mkF j (dC M a) (dC M b)) → M1 = M ∧ c1 = c) := by
  have h5 := hT.2.1
  obtain ⟨h, hh2, hh⟩ := hC_nI (nI j) (nI a) (nI b)
  have e0 : f_X1_make (n + 1) 2 (nI j) (nI a) (nI b) M = lp (st_X1_make (n + 1)) (29, [.ref 2, .int (nI j), .int (nI a), .int (nI b), .int (nI h), .int (pvh (HC M) 9 (nI h) c), .int (nI 0)], M) := by
    refine (ge_X1_make_0 (n + 1) 2 (nI j) (nI a) (nI b) M).trans ?_
    have hx : ((((nI j * 31) + nI a) * 31) + nI b) &&& 1023 = nI h := hh
    simp (disch := omega) only [T_X1_make_0, W_2 hW, gd_true, fO, fA, ex_in, bnd_s, Nat.reduceLT, true_and, and_true, and_self, hx, nI_z, vp_iff, hh2, hT.2.2.2.2.2.2.1 h hh2]
    rfl
  obtain ⟨lA, lB⟩ := make_loop hW hT (n + 1) hh.symm c 0 (by omega)
  by_cases hex : ∃ i, 9 ≤ i ∧ i < c ∧ M.2.2.1 3 i = nI j ∧ M.2.2.1 4 i = nI a ∧ M.2.2.1 5 i = nI b
  · obtain ⟨i, h9, hi, e1, e2, e3⟩ := hex
    have hd : dC M i = mkF j (dC M a) (dC M b) := by
      obtain ⟨j', a', b', g1, g2, g3, g4, f1, f2, f3, f4⟩ := hT.node h9 hi
      rw [f1, nI_eq (by omega) (by omega)] at e1
      rw [f2, nI_eq (by omega) (by omega)] at e2
      rw [f3, nI_eq (by omega) (by omega)] at e3
      rw [f4, e1, e2, e3]
    exact ⟨i, c, M, e0.trans (lA i h9 hi e1 e2 e3), hi, Nat.le_refl _, by omega, hT, hd, fun _ _ => rfl, Fr.refl, fun _ => ⟨rfl, rfl⟩⟩
  · have hno : ∀ i, 9 ≤ i → i < c → ¬ (M.2.2.1 3 i = nI j ∧ M.2.2.1 4 i = nI a ∧ M.2.2.1 5 i = nI b) := fun i x y q => hex ⟨i, x, y, q⟩
    have hnd : ¬ ∃ i, i < c ∧ dC M i = mkF j (dC M a) (dC M b) := by
      rintro ⟨i, hi, e⟩
      by_cases h9 : 9 ≤ i
      · obtain ⟨j', a', b', g1, g2, g3, g4, f1, f2, f3, f4⟩ := hT.node h9 hi
        rw [f4] at e
        obtain ⟨x, y, z⟩ := mkF_inj g1 g2 hj hj2 e
        have := hT.inj (by omega) ha y
        have := hT.inj (by omega) hb z
        subst j' a' b'
        exact hno i h9 hi ⟨f1, f2, f3⟩
      · rw [hT.leaf (by omega)] at e
        exact mkF_ne e.symm
    have hc' : c < 5200 := hc.resolve_right hnd
    have e1 := make_new hW hT n (h := h) hc' hj hj2 ha hb hh2
    obtain ⟨t1, t2, t3⟩ := hT.push hc' hj hj2 ha hb hh.symm hh2 hno rfl
    refine ⟨c, c + 1, _, e0.trans ((lB hno).trans e1), by omega, by omega, by omega, t1, t2, t3, ?_, fun q => (hnd q).elim⟩
    exact (((((((Fr.refl.wI (by simp [SF]) _).wI (by simp [SF]) _).wI (by simp [SF]) _).wJ (by simp [SF]) _).wI (by simp [SF]) _).wI (by simp [SF]) _).wI (by simp [SF]) _)
end CF
