/-! ARRANGE in the class: children placed, arms bound, the walk -/
def ups {α : Type} (f : Nat → α) (k : Nat) (x : α) : Nat → α := fun j => if j = k then x else f j
theorem ups_at {α : Type} (f : Nat → α) (k : Nat) (x : α) : ups f k x k = x := if_pos rfl
theorem ups_ne {α : Type} (f : Nat → α) {k j : Nat} (x : α) (h : j ≠ k) : ups f k x j = f j := if_neg h
theorem amN_le (o r : Nat) : amN o r ≤ 1 := by
  unfold amN
  split
  · omega
  · split <;> omega
section ARR
variable {M M1 : Mem} {tr c : Nat} {l : List (Nat × Tm)}
set_option maxHeartbeats 1000000 in
theorem pc_step (hL : LtC M tr c l) (k : Nat) {p q r d n : Nat} (hp : p < l.length) (hq : q < 200) (hpq : p ≠ q) (hr : r < ar (opl l p)) (e1 : M.2.2.1 42 p = nI d) (e2 : M.2.2.1 45 p = nI n) (hd : d < 1000) (hn : n < 1000) : ∃ M1, lp (st_X3_placeChildren (k + 2)) (16, [.ref 40, .int (nI p), .int (nI (opl l p)), .int (nI q), .int (nI r)], M) = lp (st_X3_placeChildren (k + 2)) (16, [.ref 40, .int (nI p), .int (nI (opl l p)), .int (M.2.2.1 41 q), .int (nI (r + 1))], M1) ∧ Fr (fun a j => (a = 42 ∨ a = 43 ∨ a = 44 ∨ a = 45) ∧ j = q) M M1 ∧ M1.2.2.1 42 q = nI (d + amN (opl l p) r) ∧ M1.2.2.1 43 q = nI p ∧ M1.2.2.1 44 q = nI r ∧ M1.2.2.1 45 q = nI (n + 1) := by
  have hW := hL.1
  have hR := hL.2.2.2
  have ho := hR.2.2.1.at_ hp
  have h2 := hR.2.1
  have ha3 : ar (opl l p) ≤ 3 := by
    unfold ar
    repeat' split
    all_goals omega
  have F2 : Fr (fun a j => (a = 42 ∨ a = 43 ∨ a = 44 ∨ a = 45) ∧ j = q) M (wI (wI M 43 q (nI p)) 44 q (nI r)) := (Fr.refl.wI ⟨by omega, rfl⟩ _).wI ⟨by omega, rfl⟩ _
  have F3 := F2.wI (a := 45) (k := q) ⟨by omega, rfl⟩ (nI (n + 1))
  have F4 := F3.wI (a := 42) (k := q) ⟨by omega, rfl⟩ (nI (d + amN (opl l p) r))
  have hS : ∀ a j, ((a = 42 ∨ a = 43 ∨ a = 44 ∨ a = 45) ∧ j = q) → 40 ≤ a ∧ a ≤ 49 := fun a j h => by omega
  have L2 := hL.fr F2 hS
  have L3 := hL.fr F3 hS
  have L4 := hL.fr F4 hS
  have n2 : f_X3_nestOf (k + 1) 40 (nI p) (wI (wI M 43 q (nI p)) 44 q (nI r)) = some (nI n, wI (wI M 43 q (nI p)) 44 q (nI r)) := by
    rw [c_nestOf L2.1 (k + 1) (by omega)]
    simp [up2_if, e2]
  have n3 : f_X3_depthOf (k + 1) 40 (nI p) (wI (wI (wI M 43 q (nI p)) 44 q (nI r)) 45 q (nI (n + 1))) = some (nI d, wI (wI (wI M 43 q (nI p)) 44 q (nI r)) 45 q (nI (n + 1))) := by
    rw [c_depthOf L3.1 (k + 1) (by omega)]
    simp [up2_if, e1]
  have n4 := c_isArm L3 k (p := p) (q := q) (r := r) hq hp (by omega) (by simp [up2_if]) (by simp [up2_if])
  have n5 : f_X3_endOf (k + 1) 40 (nI q) (wI (wI (wI (wI M 43 q (nI p)) 44 q (nI r)) 45 q (nI (n + 1))) 42 q (nI (d + amN (opl l p) r))) = some (M.2.2.1 41 q, wI (wI (wI (wI M 43 q (nI p)) 44 q (nI r)) 45 q (nI (n + 1))) 42 q (nI (d + amN (opl l p) r))) := by
    rw [c_endOf L4.1 (k + 1) hq]
    simp [up2_if]
  refine ⟨_, ?_, F4, by simp [up2_if], by simp [up2_if], by simp [up2_if], by simp [up2_if]⟩
  refine (ge_X3_placeChildren_16 (k + 2) 40 _ _ _ _ M).trans ?_
  have w3 := L3.1
  have w4 := L4.1
  have hv : vp_in (nI q) 200 := vp_nI hq (by omega)
  simp (disch := omega) only [T_X3_placeChildren_16, cal_s, c_arity (k + 1) ho.1 ho.2, bnd2_s, nI_le_, nI_lt0, if_false, show (200 : Int32) = nI 200 from rfl, W_40 hW, W_40 w3, W_40 w4, gd_true, fO, fA, ex_in, bnd_s, Nat.reduceLT, true_and, and_self, nI_z, hv, n2, n3, n4, nI_1]
  rw [if_neg (by omega), if_neg (by omega)]
  have hm := amN_le (opl l p) r
  by_cases h0 : amN (opl l p) r = 0
  · rw [h0] at n5 ⊢
    rw [if_pos (show nI 0 = 0 from rfl), show nI d + 0 = nI (d + 0) by simp, n5]
    rfl
  · have h1 : amN (opl l p) r = 1 := by omega
    rw [h1] at n5 ⊢
    rw [if_neg (by decide), n5]
    rfl
theorem pc_end (k : Nat) {p r : Nat} {x3 : Int32} (ho : 1 ≤ opl l p ∧ opl l p ≤ 10) (hr : r = ar (opl l p)) : lp (st_X3_placeChildren (k + 1)) (16, [.ref 40, .int (nI p), .int (nI (opl l p)), .int x3, .int (nI r)], M) = some ((), M) := by
  refine (ge_X3_placeChildren_16 (k + 1) 40 _ _ _ _ M).trans ?_
  have ha3 : ar (opl l p) ≤ 3 := by
    unfold ar
    repeat' split
    all_goals omega
  simp (disch := omega) only [T_X3_placeChildren_16, cal_s, c_arity k ho.1 ho.2, bnd2_s, nI_le_]
  rw [if_pos (by omega)]
theorem pc_0 (hL : LtC M tr c l) (k : Nat) {p : Nat} (hp : p < l.length) : f_X3_placeChildren (k + 2) 40 (nI p) M = lp (st_X3_placeChildren (k + 2)) (16, [.ref 40, .int (nI p), .int (nI (opl l p)), .int (nI (p + 1)), .int (nI 0)], M) := by
  obtain ⟨hW, hr2, hT, hR⟩ := hL
  have t1 := (TO_at hW hT).1
  have t6 := (TO_at hW hT).2.2.2.2.2.1
  have h2 := hR.2.1
  refine (ge_X3_placeChildren_0 (k + 2) 40 (nI p) M).trans ?_
  simp (disch := omega) only [T_X3_placeChildren_0, W_40 hW, hr2, gd_true, fO, bnd_s, Nat.reduceLT, and_self, cal_s, t1, t6, c_opAt hW hT hR (k + 1) hp, bnd2_s, nI_1]
  rfl
/-- what is known of a node's place, its end aside -/
def at2 (M : Mem) (p d : Nat) (pa : Int32) (r n : Nat) : Prop := M.2.2.1 42 p = nI d ∧ M.2.2.1 43 p = pa ∧ M.2.2.1 44 p = nI r ∧ M.2.2.1 45 p = nI n
theorem at2.mv {p d r n : Nat} {pa : Int32} (h : at2 M p d pa r n) {S : Nat → Nat → Prop} (hF : Fr S M M1) (h2 : ¬ S 42 p) (h3 : ¬ S 43 p) (h4 : ¬ S 44 p) (h5 : ¬ S 45 p) : at2 M1 p d pa r n := ⟨(hF.int h2).trans h.1, (hF.int h3).trans h.2.1, (hF.int h4).trans h.2.2.1, (hF.int h5).trans h.2.2.2⟩
/-- the walk as far as it is -/
def wkC (M : Mem) (W : List Int32) : Prop := M.2.2.1 40 12 = nI W.length ∧ W.length ≤ 400 ∧ ∀ i x, W[i]? = some x → M.2.2.1 49 i = x
def SWk (a k : Nat) : Prop := a = 49 ∨ (a = 40 ∧ k = 12)
theorem wkC.mv {W : List Int32} (h : wkC M W) {S : Nat → Nat → Prop} (hF : Fr S M M1) (h1 : ¬ S 40 12) (h2 : ∀ k, ¬ S 49 k) : wkC M1 W := ⟨(hF.int h1).trans h.1, h.2.1, fun i x q => (hF.int (h2 i)).trans (h.2.2 i x q)⟩
theorem c_addToWalk (hW : Wd M) {W : List Int32} (hw : wkC M W) (h4 : W.length < 400) (k : Nat) (x : Int32) : ∃ M1, f_X3_addToWalk k 40 x M = some ((), M1) ∧ Fr SWk M M1 ∧ wkC M1 (W ++ [x]) := by
  have e : aLen M 49 = some 400 := by simp [aLen, W_40 hW]
  refine ⟨wI (wI M 49 W.length x) 40 12 (nI (W.length + 1)), ?_, (Fr.refl.wI (Or.inl rfl) _).wI (Or.inr ⟨rfl, rfl⟩) _, by simp [up2_if], by simp; omega, fun i y q => ?_⟩
  · unfold f_X3_addToWalk b_X3_addToWalk
    simp (disch := omega) only [T_X3_addToWalk_0, W_40 hW, gd_true, fO, fA, ex_in, bnd_s, Nat.reduceLT, Nat.reduceEqDiff, true_and, and_self, hw.1, nI_lt0, if_false, e, show Int32.ofNat 400 = nI 400 from rfl, nI_le_, nI_z, vp_iff, up2_if, false_and, nI_1]
    rw [if_neg (by omega), gd_pos h4]
  · by_cases h : i < W.length
    · rw [List.getElem?_append_left h] at q
      have : i ≠ W.length := by omega
      simp [up2_if, this, hw.2.2 i y q]
    · have hlen : i < (W ++ [x]).length := by
        apply Nat.lt_of_not_le
        intro z
        rw [List.getElem?_eq_none z] at q
        cases q
      have : i = W.length := by
        simp only [List.length_append, List.length_cons, List.length_nil] at hlen
        omega
      subst this
      rw [List.getElem?_append_right (Nat.le_refl _), Nat.sub_self] at q
      cases q
      simp [up2_if]
/-- the nodes that end where this one ends, outwards -/
def UpC (M : Mem) : Nat → List Nat → Prop
  | p, [] => M.2.2.1 43 p = -1 ∨ ∃ q, q < p ∧ M.2.2.1 43 p = nI q ∧ M.2.2.1 41 q ≠ M.2.2.1 41 p
  | p, q :: u => q < p ∧ M.2.2.1 43 p = nI q ∧ M.2.2.1 41 q = M.2.2.1 41 p ∧ UpC M q u
theorem UpC.len : ∀ {u : List Nat} {p : Nat}, UpC M p u → u.length ≤ p := by
  intro u
  induction u with
  | nil => intro p _; exact Nat.zero_le _
  | cons q u ih =>
    intro p h
    have := ih h.2.2.2
    have := h.1
    simp only [List.length_cons]
    omega
theorem UpC.mv {S : Nat → Nat → Prop} (hF : Fr S M M1) : ∀ {u : List Nat} {p : Nat}, UpC M p u → (∀ j, j ≤ p → ¬ S 43 j ∧ ¬ S 41 j) → UpC M1 p u := by
  intro u
  induction u with
  | nil =>
    intro p h hS
    rcases h with h | ⟨q, h1, h2, h3⟩
    · exact Or.inl ((hF.int (hS p (Nat.le_refl _)).1).trans h)
    · refine Or.inr ⟨q, h1, (hF.int (hS p (Nat.le_refl _)).1).trans h2, ?_⟩
      rw [hF.int (hS p (Nat.le_refl _)).2, hF.int (hS q (by omega)).2]
      exact h3
  | cons q u ih =>
    intro p h hS
    refine ⟨h.1, (hF.int (hS p (Nat.le_refl _)).1).trans h.2.1, ?_, ih h.2.2.2 (fun j hj => hS j (by have := h.1; omega))⟩
    rw [hF.int (hS p (Nat.le_refl _)).2, hF.int (hS q (by have := h.1; omega)).2]
    exact h.2.2.1
set_option maxHeartbeats 1000000 in
theorem wo_loop (k : Nat) : ∀ (u : List Nat) {p j : Nat} {M : Mem} {W : List Int32}, Wd M → UpC M p u → wkC M W → W.length + u.length ≤ 400 → p < 200 → j + u.length < 200 → ∃ M1, lp (st_X3_walkOut (k + 1)) (9, [.ref 40, .int (nI p), .int (nI j)], M) = some ((), M1) ∧ Fr SWk M M1 ∧ wkC M1 (W ++ u.map nI) := by
  intro u
  induction u with
  | nil =>
    intro p j M W hW hU hw h4 hp hj
    refine ⟨M, ?_, Fr.refl, by simpa using hw⟩
    refine (ge_X3_walkOut_9 (k + 1) 40 _ _ M).trans ?_
    simp only [List.length_nil] at hj
    rcases hU with h | ⟨q, h1, h2, h3⟩
    · simp (disch := omega) only [T_X3_walkOut_9, show (200 : Int32) = nI 200 from rfl, nI_le_, W_40 hW, gd_true, fO, Nat.reduceLT, and_self, cal_s, c_parentOf hW k hp, h, bnd2_s, if_true]
      rw [if_neg (by omega)]
    · simp (disch := omega) only [T_X3_walkOut_9, show (200 : Int32) = nI 200 from rfl, nI_le_, W_40 hW, gd_true, fO, Nat.reduceLT, and_self, cal_s, c_parentOf hW k hp, h2, bnd2_s, nI_ne_m1, if_false, c_endOf hW k hp, c_endOf hW k (show q < 200 by omega), h3]
      rw [if_neg (by omega)]
  | cons q u ih =>
    intro p j M W hW hU hw h4 hp hj
    obtain ⟨h1, h2, h3, h5⟩ := hU
    simp only [List.length_cons] at h4 hj
    obtain ⟨M1, e1, F1, w1⟩ := c_addToWalk hW hw (by omega) k (nI q)
    obtain ⟨M2, e2, F2, w2⟩ := ih (j := j + 1) (F1.Wd hW) (h5.mv F1 (fun j _ => by unfold SWk; omega)) w1 (by simp only [List.length_append, List.length_cons, List.length_nil]; omega) (by omega) (by omega)
    refine ⟨M2, ?_, F1.trans F2, by simpa using w2⟩
    rw [← e2]
    refine (ge_X3_walkOut_9 (k + 1) 40 _ _ M).trans ?_
    simp (disch := omega) only [T_X3_walkOut_9, show (200 : Int32) = nI 200 from rfl, nI_le_, W_40 hW, gd_true, fO, Nat.reduceLT, and_self, cal_s, c_parentOf hW k hp, h2, bnd2_s, nI_ne_m1, if_false, c_endOf hW k hp, c_endOf hW k (show q < 200 by omega), h3, if_true, e1, nI_1]
    rw [if_neg (by omega)]
theorem c_walkOut (k : Nat) {u : List Nat} {p : Nat} {M : Mem} {W : List Int32} (hW : Wd M) (hU : UpC M p u) (hw : wkC M W) (h4 : W.length + u.length + 1 ≤ 400) (hp : p < 200) : ∃ M1, f_X3_walkOut (k + 1) 40 (nI p) M = some ((), M1) ∧ Fr SWk M M1 ∧ wkC M1 (W ++ nI p :: u.map nI) := by
  obtain ⟨M1, e1, F1, w1⟩ := c_addToWalk hW hw (by omega) k (nI p)
  have hlen := hU.len
  obtain ⟨M2, e2, F2, w2⟩ := wo_loop k u (p := p) (j := 0) (F1.Wd hW) (hU.mv F1 (fun j _ => by unfold SWk; omega)) w1 (by simp only [List.length_append, List.length_cons, List.length_nil]; omega) hp (by omega)
  refine ⟨M2, ?_, F1.trans F2, by simpa using w2⟩
  rw [← e2]
  refine (ge_X3_walkOut_0 (k + 1) 40 _ M).trans ?_
  simp (disch := omega) only [T_X3_walkOut_0, W_40 hW, gd_true, fO, Nat.reduceLT, and_self, cal_s, e1, bnd2_s]
  rfl
end ARR
