/-! LAYOUT in the class: what is asked of it; ends of nodes -/
def LtC (M : Mem) (tr c : Nat) (l : List (Nat × Tm)) : Prop := Wd M ∧ M.2.2.2.2 40 2 = some tr ∧ TOb tr ∧ RowC M tr c l
/-- whether the r-th term in a node is an arm -/
def amN (o r : Nat) : Nat := if o = 2 then 1 else if o = 9 ∧ 0 < r then 1 else 0
section LY
variable {M M1 : Mem} {tr c : Nat} {l : List (Nat × Tm)}
theorem LtC.fr {S : Nat → Nat → Prop} (h : LtC M tr c l) (hF : Fr S M M1) (hS : ∀ a k, S a k → 40 ≤ a ∧ a ≤ 49) : LtC M1 tr c l := by
  obtain ⟨h1, h2, h3, h4⟩ := h
  have hT : ¬ (40 ≤ tr ∧ tr ≤ 49) ∧ ¬ (40 ≤ tr + 1 ∧ tr + 1 ≤ 49) ∧ ¬ (40 ≤ tr + 2 ∧ tr + 2 ≤ 49) := by
    unfold TOb at h3
    omega
  refine ⟨hF.Wd h1, by rw [hF.2.2.1]; exact h2, h3, h4.mv (hF.int (fun q => hT.1 (hS _ _ q))) (hF.ints (fun k q => hT.2.1 (hS _ _ q))) (hF.ints (fun k q => hT.2.2 (hS _ _ q))) (fun i _ => ?_) (Nat.le_refl _)⟩
  rw [dC_fq hF.q (fun k q => by have := hS _ _ q; omega) (fun k q => by have := hS _ _ q; omega) (fun k q => by have := hS _ _ q; omega)]
theorem c_endOf (hW : Wd M) (k : Nat) {i : Nat} (hi : i < 200) : f_X3_endOf k 40 (nI i) M = some (M.2.2.1 41 i, M) := by
  unfold f_X3_endOf b_X3_endOf
  simp (disch := omega) only [T_X3_endOf_0, nI_lt0, if_false, show (200 : Int32) = nI 200 from rfl, nI_le_, W_40 hW, gd_true, fO, fA, ex_in, bnd_s, Nat.reduceLT, true_and, and_self, nI_z, vp_iff]
  rw [if_neg (by omega), gd_pos (by omega)]
theorem c_depthOf (hW : Wd M) (k : Nat) {i : Nat} (hi : i < 200) : f_X3_depthOf k 40 (nI i) M = some (M.2.2.1 42 i, M) := by
  unfold f_X3_depthOf b_X3_depthOf
  simp (disch := omega) only [T_X3_depthOf_0, nI_lt0, if_false, show (200 : Int32) = nI 200 from rfl, nI_le_, W_40 hW, gd_true, fO, fA, ex_in, bnd_s, Nat.reduceLT, true_and, and_self, nI_z, vp_iff]
  rw [if_neg (by omega), gd_pos (by omega)]
theorem c_parentOf (hW : Wd M) (k : Nat) {i : Nat} (hi : i < 200) : f_X3_parentOf k 40 (nI i) M = some (M.2.2.1 43 i, M) := by
  unfold f_X3_parentOf b_X3_parentOf
  simp (disch := omega) only [T_X3_parentOf_0, nI_lt0, if_false, show (200 : Int32) = nI 200 from rfl, nI_le_, W_40 hW, gd_true, fO, fA, ex_in, bnd_s, Nat.reduceLT, true_and, and_self, nI_z, vp_iff]
  rw [if_neg (by omega), gd_pos (by omega)]
theorem c_rankOf (hW : Wd M) (k : Nat) {i : Nat} (hi : i < 200) : f_X3_rankOf k 40 (nI i) M = some (M.2.2.1 44 i, M) := by
  unfold f_X3_rankOf b_X3_rankOf
  simp (disch := omega) only [T_X3_rankOf_0, nI_lt0, if_false, show (200 : Int32) = nI 200 from rfl, nI_le_, W_40 hW, gd_true, fO, fA, ex_in, bnd_s, Nat.reduceLT, true_and, and_self, nI_z, vp_iff]
  rw [if_neg (by omega), gd_pos (by omega)]
theorem c_nestOf (hW : Wd M) (k : Nat) {i : Nat} (hi : i < 200) : f_X3_nestOf k 40 (nI i) M = some (M.2.2.1 45 i, M) := by
  unfold f_X3_nestOf b_X3_nestOf
  simp (disch := omega) only [T_X3_nestOf_0, nI_lt0, if_false, show (200 : Int32) = nI 200 from rfl, nI_le_, W_40 hW, gd_true, fO, fA, ex_in, bnd_s, Nat.reduceLT, true_and, and_self, nI_z, vp_iff]
  rw [if_neg (by omega), gd_pos (by omega)]
theorem c_typeOf (hW : Wd M) (k : Nat) {i : Nat} (hi : i < 200) : f_X3_typeOf k 40 (nI i) M = some (M.2.2.1 48 i, M) := by
  unfold f_X3_typeOf b_X3_typeOf
  simp (disch := omega) only [T_X3_typeOf_0, nI_lt0, if_false, show (200 : Int32) = nI 200 from rfl, nI_le_, W_40 hW, gd_true, fO, fA, ex_in, bnd_s, Nat.reduceLT, true_and, and_self, nI_z, vp_iff]
  rw [if_neg (by omega), gd_pos (by omega)]
theorem c_at47 (hW : Wd M) (k : Nat) {i : Nat} (hi : i < 200) : f_X10_at k 47 (nI i) M = some (M.2.2.1 47 i, M) := by
  have e : aLen M 47 = some 200 := by simp [aLen, W_40 hW]
  unfold f_X10_at b_X10_at
  simp (disch := omega) only [T_X10_at_0, nI_lt0, if_false, e, bnd_s, show Int32.ofNat 200 = nI 200 from rfl, nI_le_, W_40 hW, gd_true, fA, ex_in, Nat.reduceLT, true_and, and_self, nI_z, vp_iff]
  rw [if_neg (by omega), gd_pos (by omega)]
theorem c_at_neg (k : Nat) {a : Nat} {x : Int32} (hx : x < 0) : f_X10_at k a x M = some (-1, M) := by
  unfold f_X10_at b_X10_at
  simp only [T_X10_at_0, hx, if_true]
theorem c_isArm (hL : LtC M tr c l) (k : Nat) {p q r : Nat} (hq : q < 200) (hp : p < l.length) (hr : r < 10) (e1 : M.2.2.1 43 q = nI p) (e2 : M.2.2.1 44 q = nI r) : f_X3_isArm (k + 1) 40 (nI q) M = some (nI (amN (opl l p) r), M) := by
  obtain ⟨hW, hr2, hT, hR⟩ := hL
  have t1 := (TO_at hW hT).1
  have t6 := (TO_at hW hT).2.2.2.2.2.1
  have ho := hR.2.2.1.at_ hp
  unfold f_X3_isArm b_X3_isArm
  simp (disch := omega) only [T_X3_isArm_0, W_40 hW, hr2, gd_true, fO, bnd_s, Nat.reduceLT, and_self, cal_s, c_parentOf hW k hq, e1, bnd2_s, t1, t6, c_opAt hW hT hR k hp, show (2 : Int32) = nI 2 from rfl, show (9 : Int32) = nI 9 from rfl, nI_eq_, c_rankOf hW k hq, e2, show (0 : Int32) = nI 0 from rfl, nI_le_]
  unfold amN
  by_cases h2 : opl l p = 2
  · rw [if_pos h2, if_pos h2]
    rfl
  · rw [if_neg h2, if_neg h2]
    by_cases h9 : opl l p = 9
    · rw [if_pos h9]
      by_cases h0 : r ≤ 0
      · rw [if_pos h0, if_neg (by omega)]
      · rw [if_neg h0, if_pos ⟨h9, by omega⟩]
        rfl
    · rw [if_neg h9, if_neg (by omega)]
theorem c_isArm0 (hL : LtC M tr c l) (k : Nat) {q : Nat} (hq : q < 200) (e1 : M.2.2.1 43 q = -1) : f_X3_isArm (k + 1) 40 (nI q) M = some (nI 0, M) := by
  obtain ⟨hW, hr2, hT, hR⟩ := hL
  have t1 := (TO_at hW hT).1
  have t6 := (TO_at hW hT).2.2.2.2.2.1
  unfold f_X3_isArm b_X3_isArm
  simp (disch := omega) only [T_X3_isArm_0, W_40 hW, hr2, gd_true, fO, bnd_s, Nat.reduceLT, and_self, cal_s, c_parentOf hW k hq, e1, bnd2_s, t1, t6, c_opAt_m1, show ((-1 : Int32) = 2) = False from eq_false (by decide), show ((-1 : Int32) = 9) = False from eq_false (by decide), if_false]
  rfl
/-- where nodes end -/
def Ed (M : Mem) : Tm → Nat → Prop
  | .elem (.rem (.index _) _) a, p => M.2.2.1 41 p = nI (p + 1 + sz a) ∧ Ed M a (p + 1)
  | .div (.rem (.index _) a) b, p => M.2.2.1 41 p = nI (p + 1 + sz a + sz b) ∧ Ed M a (p + 1) ∧ Ed M b (p + 1 + sz a)
  | .sub (.rem m a) b, p => M.2.2.1 41 p = nI (p + 1 + sz m + sz a + sz b) ∧ Ed M m (p + 1) ∧ Ed M a (p + 1 + sz m) ∧ Ed M b (p + 1 + sz m + sz a)
  | _, p => M.2.2.1 41 p = nI (p + 1)
theorem Ed.at_ : ∀ t, isT t → ∀ {p : Nat}, Ed M t p → M.2.2.1 41 p = nI (p + sz t) := by
  apply tm_ind
  · intro k p h; exact h
  · intro k p h; exact h
  · intro o f a _ _ _ p h; rw [sz_U, ← Nat.add_assoc, Nat.add_right_comm]; exact h.1
  · intro o a b _ _ _ _ _ p h; rw [sz_B, show p + (sz a + sz b + 1) = p + 1 + sz a + sz b by omega]; exact h.1
  · intro m a b _ _ _ _ _ _ p h; rw [sz_C, show p + (sz m + sz a + sz b + 1) = p + 1 + sz m + sz a + sz b by omega]; exact h.1
theorem Ed.congr : ∀ t, isT t → ∀ {p : Nat}, (∀ i, p ≤ i → i < p + sz t → M1.2.2.1 41 i = M.2.2.1 41 i) → Ed M t p → Ed M1 t p := by
  apply tm_ind
  · intro k p e h; exact (e p (Nat.le_refl _) (by rw [sz_L]; omega)).trans h
  · intro k p e h; exact (e p (Nat.le_refl _) (by rw [sz_H]; omega)).trans h
  · intro o f a _ _ ih p e h
    rw [sz_U] at e
    exact ⟨(e p (Nat.le_refl _) (by omega)).trans h.1, ih (fun i h1 h2 => e i (by omega) (by omega)) h.2⟩
  · intro o a b _ _ _ ia ib p e h
    rw [sz_B] at e
    exact ⟨(e p (Nat.le_refl _) (by omega)).trans h.1, ia (fun i h1 h2 => e i (by omega) (by omega)) h.2.1, ib (fun i h1 h2 => e i (by omega) (by omega)) h.2.2⟩
  · intro m a b _ _ _ im ia ib p e h
    rw [sz_C] at e
    exact ⟨(e p (Nat.le_refl _) (by omega)).trans h.1, im (fun i h1 h2 => e i (by omega) (by omega)) h.2.1, ia (fun i h1 h2 => e i (by omega) (by omega)) h.2.2.1, ib (fun i h1 h2 => e i (by omega) (by omega)) h.2.2.2⟩
theorem en_43s (hW : Wd M) (k : Nat) {q j : Nat} (hq : q < 200) (hj : j < 10) (x2 : Int32) : lp (st_X3_arrange (k + 1)) (43, [.ref 40, .int x2, .int (nI q), .int (nI (j + 1))], M) = lp (st_X3_arrange (k + 1)) (43, [.ref 40, .int x2, .int (M.2.2.1 41 q), .int (nI j)], M) := by
  refine (ge_X3_arrange_43 (k + 1) 40 x2 (nI q) (nI (j + 1)) M).trans ?_
  simp (disch := omega) only [T_X3_arrange_43, show (0 : Int32) = nI 0 from rfl, nI_le_, W_40 hW, gd_true, fO, Nat.reduceLT, and_self, cal_s, c_endOf hW k hq, bnd2_s, pm_dec]
  rw [if_neg (by omega)]
  rfl
theorem en_43e (hW : Wd M) (k : Nat) {p : Nat} (hp : p < 200) (x3 : Int32) : lp (st_X3_arrange (k + 1)) (43, [.ref 40, .int (nI p), .int x3, .int (nI 0)], M) = lp (st_X3_arrange (k + 1)) (15, [.ref 40, .int (pm p)], wI M 41 p x3) := by
  refine (ge_X3_arrange_43 (k + 1) 40 (nI p) x3 (nI 0) M).trans ?_
  simp (disch := omega) only [T_X3_arrange_43, show (0 : Int32) = nI 0 from rfl, nI_le_, Nat.le_refl, if_true, W_40 hW, gd_true, fO, fA, ex_in, bnd_s, Nat.reduceLT, true_and, and_self, nI_z, vp_iff, hp, pm_dec]
theorem en_15 (hL : LtC M tr c l) (k : Nat) {p : Nat} (hp : p < l.length) : lp (st_X3_arrange (k + 1)) (15, [.ref 40, .int (nI p)], M) = lp (st_X3_arrange (k + 1)) (43, [.ref 40, .int (nI p), .int (nI (p + 1)), .int (nI (ar (opl l p)))], M) := by
  obtain ⟨hW, hr2, hT, hR⟩ := hL
  have t1 := (TO_at hW hT).1
  have t6 := (TO_at hW hT).2.2.2.2.2.1
  have ho := hR.2.2.1.at_ hp
  have h2 := hR.2.1
  refine (ge_X3_arrange_15 (k + 1) 40 (nI p) M).trans ?_
  simp (disch := omega) only [T_X3_arrange_15, nI_lt0, if_false, show (200 : Int32) = nI 200 from rfl, nI_le_, W_40 hW, hr2, gd_true, fO, bnd_s, Nat.reduceLT, and_self, cal_s, t1, t6, c_opAt hW hT hR k hp, bnd2_s, c_arity k ho.1 ho.2, nI_1]
  rw [if_neg (by omega)]
def S41 (p e a j : Nat) : Prop := a = 41 ∧ p ≤ j ∧ j < e
theorem S41.lo {p e a j : Nat} (h : S41 p e a j) : 40 ≤ a ∧ a ≤ 49 := by
  unfold S41 at h
  omega
set_option maxHeartbeats 1000000 in
theorem en_main (k : Nat) : ∀ t, isT t → ∀ {p : Nat} {M : Mem}, LtC M tr c l → Sb l p t → ∃ M1, lp (st_X3_arrange (k + 1)) (15, [.ref 40, .int (pm (p + sz t))], M) = lp (st_X3_arrange (k + 1)) (15, [.ref 40, .int (pm p)], M1) ∧ Fr (S41 p (p + sz t)) M M1 ∧ Ed M1 t p := by
  apply tm_ind
  · intro j p M hL hS
    have hl := hS.le
    have h2 := hL.2.2.2.2.1
    rw [sz_L] at hl ⊢
    have eo := (opl_of hS.L).1
    refine ⟨wI M 41 p (nI (p + 1)), ?_, Fr.refl.wI ⟨rfl, Nat.le_refl _, by omega⟩ _, by show up2 _ _ _ _ _ _ = _; simp [up2_if]⟩
    exact (en_15 hL k (by omega)).trans (by rw [eo]; exact en_43e hL.1 k (by omega) _)
  · intro j p M hL hS
    have hl := hS.le
    have h2 := hL.2.2.2.2.1
    rw [sz_H] at hl ⊢
    have eo := (opl_of hS.H).1
    refine ⟨wI M 41 p (nI (p + 1)), ?_, Fr.refl.wI ⟨rfl, Nat.le_refl _, by omega⟩ _, by show up2 _ _ _ _ _ _ = _; simp [up2_if]⟩
    exact (en_15 hL k (by omega)).trans (by rw [eo]; exact en_43e hL.1 k (by omega) _)
  · intro o f a ho ha ih p M hL hS
    have hl := hS.le
    have h2 := hL.2.2.2.2.1
    have pa := sz_pos a ha
    rw [sz_U] at hl ⊢
    obtain ⟨g, sa⟩ := hS.U
    have eo := (opl_of g).1
    obtain ⟨M1, e1, F1, d1⟩ := ih hL sa
    have L1 := hL.fr F1 (fun _ _ q => q.lo)
    have ea := d1.at_ a ha
    refine ⟨wI M1 41 p (nI (p + 1 + sz a)), ?_, (F1.mono (fun x y q => ⟨q.1, by have := q.2; omega, by have := q.2; omega⟩)).wI ⟨rfl, Nat.le_refl _, by omega⟩ _, ?_⟩
    · rw [show p + (sz a + 1) = p + 1 + sz a by omega, e1]
      refine (en_15 L1 k (by omega)).trans ?_
      rw [eo, ar_U ho]
      refine (en_43s L1.1 k (by omega) (by omega) _).trans ?_
      rw [ea]
      exact en_43e L1.1 k (by omega) _
    · exact ⟨by simp [up2_if], d1.congr a ha (fun i h1 h2 => by simp [up2_if]; omega)⟩
  · intro o a b ho ha hb ia ib p M hL hS
    have hl := hS.le
    have h2 := hL.2.2.2.2.1
    have pa := sz_pos a ha
    have pb := sz_pos b hb
    rw [sz_B] at hl ⊢
    obtain ⟨g, sa, sb⟩ := hS.B
    have eo := (opl_of g).1
    obtain ⟨M1, e1, F1, d1⟩ := ib hL sb
    have L1 := hL.fr F1 (fun _ _ q => q.lo)
    obtain ⟨M2, e2, F2, d2⟩ := ia L1 sa
    have L2 := L1.fr F2 (fun _ _ q => q.lo)
    have ea := d2.at_ a ha
    have d1' : Ed M2 b (p + 1 + sz a) := d1.congr b hb (fun i h1 h2 => F2.int (fun q => by have := q.2; omega))
    have eb := d1'.at_ b hb
    refine ⟨wI M2 41 p (nI (p + 1 + sz a + sz b)), ?_, ((F1.mono (fun x y q => ⟨q.1, by have := q.2; omega, by have := q.2; omega⟩)).trans (F2.mono (fun x y q => ⟨q.1, by have := q.2; omega, by have := q.2; omega⟩))).wI ⟨rfl, Nat.le_refl _, by omega⟩ _, ?_⟩
    · rw [show p + (sz a + sz b + 1) = p + 1 + sz a + sz b by omega, e1, e2]
      refine (en_15 L2 k (by omega)).trans ?_
      rw [eo, ar_B ho]
      refine (en_43s L2.1 k (by omega) (by omega) _).trans ?_
      rw [ea]
      refine (en_43s L2.1 k (by omega) (by omega) _).trans ?_
      rw [eb]
      exact en_43e L2.1 k (by omega) _
    · exact ⟨by simp [up2_if], d2.congr a ha (fun i h1 h2 => by simp [up2_if]; omega), d1'.congr b hb (fun i h1 h2 => by simp [up2_if]; omega)⟩
  · intro m a b hm ha hb im ia ib p M hL hS
    have hl := hS.le
    have h2 := hL.2.2.2.2.1
    have pm_ := sz_pos m hm
    have pa := sz_pos a ha
    have pb := sz_pos b hb
    rw [sz_C] at hl ⊢
    obtain ⟨g, sm, sa, sb⟩ := hS.C
    have eo := (opl_of g).1
    obtain ⟨M1, e1, F1, d1⟩ := ib hL sb
    have L1 := hL.fr F1 (fun _ _ q => q.lo)
    obtain ⟨M2, e2, F2, d2⟩ := ia L1 sa
    have L2 := L1.fr F2 (fun _ _ q => q.lo)
    obtain ⟨M3, e3, F3, d3⟩ := im L2 sm
    have L3 := L2.fr F3 (fun _ _ q => q.lo)
    have em := d3.at_ m hm
    have d2' : Ed M3 a (p + 1 + sz m) := d2.congr a ha (fun i h1 h2 => F3.int (fun q => by have := q.2; omega))
    have d1' : Ed M3 b (p + 1 + sz m + sz a) := (d1.congr b hb (M1 := M2) (fun i h1 h2 => F2.int (fun q => by have := q.2; omega))).congr b hb (fun i h1 h2 => F3.int (fun q => by have := q.2; omega))
    have ea := d2'.at_ a ha
    have eb := d1'.at_ b hb
    refine ⟨wI M3 41 p (nI (p + 1 + sz m + sz a + sz b)), ?_, (((F1.mono (fun x y q => ⟨q.1, by have := q.2; omega, by have := q.2; omega⟩)).trans (F2.mono (fun x y q => ⟨q.1, by have := q.2; omega, by have := q.2; omega⟩))).trans (F3.mono (fun x y q => ⟨q.1, by have := q.2; omega, by have := q.2; omega⟩))).wI ⟨rfl, Nat.le_refl _, by omega⟩ _, ?_⟩
    · rw [show p + (sz m + sz a + sz b + 1) = p + 1 + sz m + sz a + sz b by omega, e1, e2, e3]
      refine (en_15 L3 k (by omega)).trans ?_
      rw [eo, show ar 9 = 3 from rfl]
      refine (en_43s L3.1 k (by omega) (by omega) _).trans ?_
      rw [em]
      refine (en_43s L3.1 k (by omega) (by omega) _).trans ?_
      rw [ea]
      refine (en_43s L3.1 k (by omega) (by omega) _).trans ?_
      rw [eb]
      exact en_43e L3.1 k (by omega) _
    · exact ⟨by simp [up2_if], d3.congr m hm (fun i h1 h2 => by simp [up2_if]; omega), d2'.congr a ha (fun i h1 h2 => by simp [up2_if]; omega), d1'.congr b hb (fun i h1 h2 => by simp [up2_if]; omega)⟩
end LY
