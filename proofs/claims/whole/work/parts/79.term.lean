/-! ROWS OF NODES in the class's Terms; what is asked of them -/
def okR (l : List (Nat × Tm)) : Prop := ∀ nd, nd ∈ l → 1 ≤ nd.1 ∧ nd.1 ≤ 10
def opl (l : List (Nat × Tm)) (i : Nat) : Nat := ((l[i]?).getD (0, .null)).1
def lbl (l : List (Nat × Tm)) (i : Nat) : Tm := ((l[i]?).getD (0, .null)).2
/-- a name's number -/
def nv : Tm → Int32
  | .index k => nI k
  | .arg k => -1 - nI k
  | _ => 0
def agC (M : Mem) (c : Nat) (nd : Nat × Tm) (g : Int32) : Prop := (nd.1 = 1 → g = nv nd.2) ∧ (tf nd.1 → ∃ i, i < c ∧ g = nI i ∧ dC M i = nd.2) ∧ (nd.1 ≠ 1 → ¬ tf nd.1 → g = 0)
def RowC (M : Mem) (tr c : Nat) (l : List (Nat × Tm)) : Prop := M.2.2.1 tr 2 = nI l.length ∧ l.length ≤ 200 ∧ okR l ∧ ∀ i nd, l[i]? = some nd → M.2.2.1 (tr + 1) i = nI nd.1 ∧ agC M c nd (M.2.2.1 (tr + 2) i)
def TOb (tr : Nat) : Prop := tr = 25 ∨ tr = 28 ∨ tr = 31 ∨ tr = 34 ∨ tr = 37 ∨ tr = 50 ∨ tr = 54 ∨ tr = 57 ∨ tr = 60 ∨ tr = 63
theorem opl_get {l : List (Nat × Tm)} {i : Nat} (h : i < l.length) : l[i]? = some (opl l i, lbl l i) := by
  unfold opl lbl
  rw [List.getElem?_eq_getElem h]
  rfl
theorem opl_of {l : List (Nat × Tm)} {i : Nat} {nd : Nat × Tm} (h : l[i]? = some nd) : opl l i = nd.1 ∧ lbl l i = nd.2 ∧ i < l.length := by
  unfold opl lbl
  rw [h]
  refine ⟨rfl, rfl, ?_⟩
  apply Nat.lt_of_not_le
  intro q
  rw [List.getElem?_eq_none q] at h
  cases h
theorem opl_out {l : List (Nat × Tm)} {i : Nat} (h : l.length ≤ i) : opl l i = 0 := by
  unfold opl
  rw [List.getElem?_eq_none h]
  rfl
theorem okR.at_ {l : List (Nat × Tm)} (h : okR l) {i : Nat} (hi : i < l.length) : 1 ≤ opl l i ∧ opl l i ≤ 10 := h _ (List.mem_of_getElem? (opl_get hi))
section TMC
variable {M : Mem} {tr c : Nat} {l : List (Nat × Tm)}
theorem TO_at (hW : Wd M) (h : TOb tr) : M.2.1 tr = .inr 9 ∧ M.2.2.2.2 tr 0 = some (tr + 1) ∧ M.2.2.2.2 tr 1 = some (tr + 2) ∧ M.2.1 (tr + 1) = .inl (1, 200) ∧ M.2.1 (tr + 2) = .inl (1, 200) ∧ tr < 126 ∧ tr + 1 < 126 ∧ tr + 2 < 126 := by
  rcases h with rfl | rfl | rfl | rfl | rfl | rfl | rfl | rfl | rfl | rfl
  · exact ⟨s_25 hW, r_25_0 hW, r_25_1 hW, s_26 hW, s_27 hW, by omega, by omega, by omega⟩
  · exact ⟨s_28 hW, r_28_0 hW, r_28_1 hW, s_29 hW, s_30 hW, by omega, by omega, by omega⟩
  · exact ⟨s_31 hW, r_31_0 hW, r_31_1 hW, s_32 hW, s_33 hW, by omega, by omega, by omega⟩
  · exact ⟨s_34 hW, r_34_0 hW, r_34_1 hW, s_35 hW, s_36 hW, by omega, by omega, by omega⟩
  · exact ⟨s_37 hW, r_37_0 hW, r_37_1 hW, s_38 hW, s_39 hW, by omega, by omega, by omega⟩
  · exact ⟨s_50 hW, r_50_0 hW, r_50_1 hW, s_51 hW, s_52 hW, by omega, by omega, by omega⟩
  · exact ⟨s_54 hW, r_54_0 hW, r_54_1 hW, s_55 hW, s_56 hW, by omega, by omega, by omega⟩
  · exact ⟨s_57 hW, r_57_0 hW, r_57_1 hW, s_58 hW, s_59 hW, by omega, by omega, by omega⟩
  · exact ⟨s_60 hW, r_60_0 hW, r_60_1 hW, s_61 hW, s_62 hW, by omega, by omega, by omega⟩
  · exact ⟨s_63 hW, r_63_0 hW, r_63_1 hW, s_64 hW, s_65 hW, by omega, by omega, by omega⟩
theorem RowC.op (h : RowC M tr c l) {i : Nat} (hi : i < l.length) : M.2.2.1 (tr + 1) i = nI (opl l i) := (h.2.2.2 i _ (opl_get hi)).1
theorem RowC.ag (h : RowC M tr c l) {i : Nat} (hi : i < l.length) : agC M c (opl l i, lbl l i) (M.2.2.1 (tr + 2) i) := (h.2.2.2 i _ (opl_get hi)).2
theorem c_opAt (hW : Wd M) (hT : TOb tr) (hR : RowC M tr c l) (k : Nat) {i : Nat} (hi : i < l.length) : f_X9_opAt k tr (nI i) M = some (nI (opl l i), M) := by
  have h2 := hR.2.1
  obtain ⟨t1, t2, t3, t4, t5, t6, t7, t8⟩ := TO_at hW hT
  unfold f_X9_opAt b_X9_opAt
  simp (disch := omega) only [T_X9_opAt_0, nI_lt0, if_false, gd_true, fO, fA, ex_in, bnd_s, hW.1, t1, t2, t4, t6, t7, and_self, true_and, hR.1, nI_le_, nI_z, vp_iff, hR.op hi]
  rw [if_neg (by omega), gd_pos (by omega)]
theorem c_opAt_out (hW : Wd M) (hT : TOb tr) (hR : RowC M tr c l) (k : Nat) {i : Nat} (hi : l.length ≤ i) (h31 : i < 2147483648) : f_X9_opAt k tr (nI i) M = some (-1, M) := by
  have h2 := hR.2.1
  obtain ⟨t1, t2, t3, t4, t5, t6, t7, t8⟩ := TO_at hW hT
  unfold f_X9_opAt b_X9_opAt
  simp (disch := omega) only [T_X9_opAt_0, nI_lt0, if_false, gd_true, fO, fA, ex_in, bnd_s, hW.1, t1, t2, t4, t6, t7, and_self, true_and, hR.1, nI_le_, nI_z, vp_iff]
  rw [if_pos hi]
theorem c_opAt_m1 (k : Nat) : f_X9_opAt k tr (-1) M = some (-1, M) := by
  unfold f_X9_opAt b_X9_opAt
  simp only [T_X9_opAt_0, m1_lt0, if_true]
theorem c_argAt (hW : Wd M) (hT : TOb tr) (hR : RowC M tr c l) (k : Nat) {i : Nat} (hi : i < l.length) : f_X9_argAt k tr (nI i) M = some (M.2.2.1 (tr + 2) i, M) := by
  have h2 := hR.2.1
  obtain ⟨t1, t2, t3, t4, t5, t6, t7, t8⟩ := TO_at hW hT
  unfold f_X9_argAt b_X9_argAt
  simp (disch := omega) only [T_X9_argAt_0, nI_lt0, if_false, gd_true, fO, fA, ex_in, bnd_s, hW.1, t1, t3, t5, t6, t8, and_self, true_and, hR.1, nI_le_, nI_z, vp_iff]
  rw [if_neg (by omega), gd_pos (by omega)]
theorem c_arity (k : Nat) {o : Nat} (h1 : 1 ≤ o) (h2 : o ≤ 10) : f_X10_arity k (nI o) M = some (nI (ar o), M) := by
  unfold f_X10_arity b_X10_arity
  simp (disch := omega) only [T_X10_arity_0, nI_lt0, if_false, show (11 : Int32) = nI 11 from rfl, nI_le_, nI_z, vp_iff, arF_is o h1 h2]
  rw [if_neg (by omega), gd_pos (by omega)]
/-- which redex an outer and an inner node make -/
def rdk (o i : Nat) : Nat := if o = 3 ∨ o = 5 ∨ o = 6 ∨ o = 9 ∨ o = 10 then (if i = 9 then 6 else if i = 10 then 7 else if o = 3 ∧ i = 2 then 1 else if o = 5 ∧ i = 4 then 2 else if o = 6 ∧ i = 4 then 3 else if o = 9 ∧ i = 7 then 4 else if o = 9 ∧ i = 8 then 5 else 0) else 0
def rdl (l : List (Nat × Tm)) (i : Nat) : Nat := rdk (opl l i) (opl l (i + 1))
theorem rdk_le (o i : Nat) : rdk o i ≤ 7 := by
  unfold rdk
  repeat' split
  all_goals omega
theorem ra_44 (k : Nat) {o i : Nat} (ho : o = 3 ∨ o = 5 ∨ o = 6 ∨ o = 9 ∨ o = 10) (h2 : i ≤ 10) : lp (st_X9_redexAt k) (44, [.int (nI o), .int (nI i)], M) = some (nI (rdk o i), M) := by
  refine (ge_X9_redexAt_44 k _ _ M).trans ?_
  have hi : i = 0 ∨ i = 1 ∨ i = 2 ∨ i = 3 ∨ i = 4 ∨ i = 5 ∨ i = 6 ∨ i = 7 ∨ i = 8 ∨ i = 9 ∨ i = 10 := by omega
  rcases ho with rfl | rfl | rfl | rfl | rfl <;> rcases hi with rfl | rfl | rfl | rfl | rfl | rfl | rfl | rfl | rfl | rfl | rfl <;> rfl
theorem ra_44m (k : Nat) {o : Nat} (ho : o = 3 ∨ o = 5 ∨ o = 6 ∨ o = 9 ∨ o = 10) : lp (st_X9_redexAt k) (44, [.int (nI o), .int (-1)], M) = some (0, M) := by
  refine (ge_X9_redexAt_44 k _ _ M).trans ?_
  simp only [T_X9_redexAt_44, show ((-1 : Int32) = 9) = False from eq_false (by decide), show ((-1 : Int32) = 10) = False from eq_false (by decide), show ((-1 : Int32) = 2) = False from eq_false (by decide), show ((-1 : Int32) = 4) = False from eq_false (by decide), show ((-1 : Int32) = 7) = False from eq_false (by decide), show ((-1 : Int32) = 8) = False from eq_false (by decide), if_false, ite_self]
theorem c_redexAt (hW : Wd M) (hT : TOb tr) (hR : RowC M tr c l) (k : Nat) {i : Nat} (hi : i < l.length) : f_X9_redexAt (k + 1) tr (nI i) M = some (nI (rdl l i), M) := by
  have h2 := hR.2.1
  obtain ⟨t1, t2, t3, t4, t5, t6, t7, t8⟩ := TO_at hW hT
  have e1 := c_opAt hW hT hR k hi
  have ho := hR.2.2.1.at_ hi
  refine (ge_X9_redexAt_0 (k + 1) tr (nI i) M).trans ?_
  by_cases h : i + 1 < l.length
  · have e2 := c_opAt hW hT hR k h
    have ho2 := hR.2.2.1.at_ h
    simp (disch := omega) only [T_X9_redexAt_0, gd_true, fO, hW.1, t1, t6, and_self, cal_s, e1, bnd2_s, nI_1, e2, show (3 : Int32) = nI 3 from rfl, show (5 : Int32) = nI 5 from rfl, show (6 : Int32) = nI 6 from rfl, show (9 : Int32) = nI 9 from rfl, show (10 : Int32) = nI 10 from rfl, nI_eq_]
    by_cases q : opl l i = 3 ∨ opl l i = 5 ∨ opl l i = 6 ∨ opl l i = 9 ∨ opl l i = 10
    · have e3 := ra_44 (M := M) (k + 1) q ho2.2
      rw [e3]
      unfold rdl
      rcases q with q | q | q | q | q <;> simp [q]
    · rw [if_neg (fun x => q (Or.inl x)), if_neg (fun x => q (Or.inr (Or.inl x))), if_neg (fun x => q (Or.inr (Or.inr (Or.inl x)))), if_neg (fun x => q (Or.inr (Or.inr (Or.inr (Or.inl x))))), if_neg (fun x => q (Or.inr (Or.inr (Or.inr (Or.inr x)))))]
      unfold rdl rdk
      rw [if_neg q]
      rfl
  · have e2 := c_opAt_out hW hT hR k (i := i + 1) (by omega) (by omega)
    simp (disch := omega) only [T_X9_redexAt_0, gd_true, fO, hW.1, t1, t6, and_self, cal_s, e1, bnd2_s, nI_1, e2, show (3 : Int32) = nI 3 from rfl, show (5 : Int32) = nI 5 from rfl, show (6 : Int32) = nI 6 from rfl, show (9 : Int32) = nI 9 from rfl, show (10 : Int32) = nI 10 from rfl, nI_eq_]
    have e0 : rdl l i = 0 := by
      unfold rdl
      rw [opl_out (i := i + 1) (by omega)]
      unfold rdk
      simp
    rw [e0]
    by_cases q : opl l i = 3 ∨ opl l i = 5 ∨ opl l i = 6 ∨ opl l i = 9 ∨ opl l i = 10
    · have e3 := ra_44m (M := M) (k + 1) q
      rw [e3]
      rcases q with q | q | q | q | q <;> simp [q] <;> rfl
    · rw [if_neg (fun x => q (Or.inl x)), if_neg (fun x => q (Or.inr (Or.inl x))), if_neg (fun x => q (Or.inr (Or.inr (Or.inl x)))), if_neg (fun x => q (Or.inr (Or.inr (Or.inr (Or.inl x))))), if_neg (fun x => q (Or.inr (Or.inr (Or.inr (Or.inr x)))))]
      rfl
/-- how many redexes of a kind there are ahead of a place; of all for 0 -/
def crd (l : List (Nat × Tm)) (kd : Nat) : Nat → Nat
  | 0 => 0
  | i + 1 => if rdl l i ≠ 0 ∧ (kd = 0 ∨ kd = rdl l i) then crd l kd i + 1 else crd l kd i
theorem crd_le (l : List (Nat × Tm)) (kd : Nat) : ∀ i, crd l kd i ≤ i := by
  intro i
  induction i with
  | zero => exact Nat.le_refl _
  | succ i ih =>
    unfold crd
    split <;> omega
theorem redexesOf_loop (hW : Wd M) (hT : TOb tr) (hR : RowC M tr c l) (k : Nat) {kd : Nat} (hk : kd ≤ 7) : ∀ z i, i + z = l.length → lp (st_X9_redexesOf (k + 2)) (4, [.ref tr, .int (nI kd), .int (nI (crd l kd i)), .int (nI i)], M) = some (nI (crd l kd l.length), M) := by
  have h2 := hR.2.1
  obtain ⟨t1, t2, t3, t4, t5, t6, t7, t8⟩ := TO_at hW hT
  intro z
  induction z with
  | zero =>
    intro i hi
    have e : i = l.length := by omega
    subst e
    refine (ge_X9_redexesOf_4 (k + 2) tr _ _ _ M).trans ?_
    simp (disch := omega) only [T_X9_redexesOf_4, gd_true, fO, hW.1, t1, t6, and_self, hR.1, nI_le_, Nat.le_refl, if_true]
  | succ z ih =>
    intro i hi
    have e1 := c_redexAt hW hT hR k (i := i) (by omega)
    have h7 := rdk_le (opl l i) (opl l (i + 1))
    have h7' : rdl l i ≤ 7 := h7
    have hc := crd_le l kd i
    rw [← ih (i + 1) (by omega)]
    refine (ge_X9_redexesOf_4 (k + 2) tr _ _ _ M).trans ?_
    simp (disch := omega) only [T_X9_redexesOf_4, gd_true, fO, hW.1, t1, t6, and_self, hR.1, nI_le_, cal_s, e1, bnd2_s, nI_1, show (0 : Int32) = nI 0 from rfl, nI_eq_]
    rw [if_neg (by omega)]
    show _ = lp _ (4, [.ref tr, .int (nI kd), .int (nI (if rdl l i ≠ 0 ∧ (kd = 0 ∨ kd = rdl l i) then crd l kd i + 1 else crd l kd i)), .int (nI (i + 1))], M)
    by_cases q1 : rdl l i = 0
    · rw [if_pos q1, if_neg (fun q => q.1 q1)]
    · rw [if_neg q1]
      by_cases q2 : kd = 0
      · rw [if_pos q2, if_pos ⟨q1, Or.inl q2⟩]
      · rw [if_neg q2]
        by_cases q3 : kd = rdl l i
        · rw [if_pos q3, if_pos ⟨q1, Or.inr q3⟩]
        · rw [if_neg q3, if_neg (fun q => q.2.elim q2 q3)]
theorem c_redexesOf (hW : Wd M) (hT : TOb tr) (hR : RowC M tr c l) (k : Nat) {kd : Nat} (hk : kd ≤ 7) : f_X9_redexesOf (k + 2) tr (nI kd) M = some (nI (crd l kd l.length), M) :=
  (ge_X9_redexesOf_0 (k + 2) tr (nI kd) M).trans (redexesOf_loop hW hT hR k hk l.length 0 (by omega))
/-- the first redex from a place on -/
def frx (l : List (Nat × Tm)) : Nat → Nat → Option Nat
  | 0, _ => none
  | z + 1, i => if rdl l i = 0 then frx l z (i + 1) else some i
theorem frx_is (l : List (Nat × Tm)) : ∀ z i, (frx l z i = none ∧ ∀ j, i ≤ j → j < i + z → rdl l j = 0) ∨ ∃ j, i ≤ j ∧ j < i + z ∧ rdl l j ≠ 0 ∧ frx l z i = some j ∧ ∀ u, i ≤ u → u < j → rdl l u = 0 := by
  intro z
  induction z with
  | zero => intro i; exact Or.inl ⟨rfl, fun j h1 h2 => by omega⟩
  | succ z ih =>
    intro i
    unfold frx
    by_cases h : rdl l i = 0
    · rw [if_pos h]
      rcases ih (i + 1) with ⟨e, q⟩ | ⟨j, h1, h2, h3, e, q⟩
      · refine Or.inl ⟨e, fun j a b => ?_⟩
        by_cases hj : j = i
        · rw [hj]; exact h
        · exact q j (by omega) (by omega)
      · refine Or.inr ⟨j, by omega, by omega, h3, e, fun u a b => ?_⟩
        by_cases hj : u = i
        · rw [hj]; exact h
        · exact q u (by omega) b
    · rw [if_neg h]
      exact Or.inr ⟨i, Nat.le_refl _, by omega, h, rfl, fun u a b => by omega⟩
def oI : Option Nat → Int32
  | none => -1
  | some i => nI i
theorem firstRedex_loop (hW : Wd M) (hT : TOb tr) (hR : RowC M tr c l) (k : Nat) : ∀ z i, i + z = l.length → lp (st_X9_firstRedex (k + 2)) (2, [.ref tr, .int (nI i)], M) = some (oI (frx l z i), M) := by
  have h2 := hR.2.1
  obtain ⟨t1, t2, t3, t4, t5, t6, t7, t8⟩ := TO_at hW hT
  intro z
  induction z with
  | zero =>
    intro i hi
    have e : i = l.length := by omega
    subst e
    refine (ge_X9_firstRedex_2 (k + 2) tr _ M).trans ?_
    simp (disch := omega) only [T_X9_firstRedex_2, gd_true, fO, hW.1, t1, t6, and_self, hR.1, nI_le_, Nat.le_refl, if_true]
    rfl
  | succ z ih =>
    intro i hi
    have e1 := c_redexAt hW hT hR k (i := i) (by omega)
    have h7 := rdk_le (opl l i) (opl l (i + 1))
    have h7' : rdl l i ≤ 7 := h7
    refine (ge_X9_firstRedex_2 (k + 2) tr _ M).trans ?_
    simp (disch := omega) only [T_X9_firstRedex_2, gd_true, fO, hW.1, t1, t6, and_self, hR.1, nI_le_, cal_s, e1, bnd2_s, nI_1, show (0 : Int32) = nI 0 from rfl, nI_eq_]
    rw [if_neg (by omega)]
    unfold frx
    by_cases q1 : rdl l i = 0
    · rw [if_pos q1, if_pos q1]
      exact ih (i + 1) (by omega)
    · rw [if_neg q1, if_neg q1]
      rfl
theorem c_firstRedex (hW : Wd M) (hT : TOb tr) (hR : RowC M tr c l) (k : Nat) : f_X9_firstRedex (k + 2) tr M = some (oI (frx l l.length 0), M) :=
  (ge_X9_firstRedex_0 (k + 2) tr M).trans (firstRedex_loop hW hT hR k l.length 0 (by omega))
end TMC
