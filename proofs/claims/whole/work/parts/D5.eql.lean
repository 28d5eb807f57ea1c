/-! SAME rows: equal, in class and reference -/
def agX (D : Nat → Fm) (c : Nat) (z : Int32) (nd : Nat × Tm) (g : Int32) : Prop := (nd.1 = 1 → g = nv nd.2) ∧ (tf nd.1 → ∃ i, i < c ∧ g = nI i ∧ D i = nd.2) ∧ (nd.1 ≠ 1 → ¬ tf nd.1 → g = z)
def nlB (nd : Nat × Tm) : Prop := nd.1 ≠ 1 → ¬ tf nd.1 → nd.2 = .null
theorem rws_nl : ∀ t, isT t → ∀ nd, nd ∈ rws t → nlB nd := by
  apply tm_ind
  · intro k nd h
    rw [rws_L, List.mem_singleton] at h
    subst h
    exact fun q => absurd rfl q
  · intro k nd h
    rw [rws_H, List.mem_singleton] at h
    subst h
    exact fun q => absurd rfl q
  · intro o f a ho _ ih nd h
    rw [rws_U, List.mem_cons] at h
    rcases h with rfl | h
    · intro q1 q2
      rcases ho with ho | ⟨-, ho⟩
      · exact absurd ho q2
      · exact ho
    · exact ih nd h
  · intro o a b _ _ _ ia ib nd h
    rw [rws_B, List.mem_cons, List.mem_append] at h
    rcases h with rfl | h | h
    · exact fun _ _ => rfl
    · exact ia nd h
    · exact ib nd h
  · intro m a b _ _ _ im ia ib nd h
    rw [rws_C, List.mem_cons, List.mem_append, List.mem_append] at h
    rcases h with rfl | h | h | h
    · exact fun _ _ => rfl
    · exact im nd h
    · exact ia nd h
    · exact ib nd h
theorem nv_inj {a b : Tm} (ha : (∃ k, a = .index k ∧ k < 1000) ∨ ∃ k, a = .arg k ∧ k < 6) (hb : (∃ k, b = .index k ∧ k < 1000) ∨ ∃ k, b = .arg k ∧ k < 6) (h : nv a = nv b) : a = b := by
  have key : ∀ {j k : Nat}, j < 1000 → k < 6 → nI j = -1 - nI k → False := fun hj hk e => by
    have := congrArg Int32.toInt e
    rw [hy_toInt (by omega), nI_toInt (by omega)] at this
    omega
  rcases ha with ⟨j, rfl, hj⟩ | ⟨j, rfl, hj⟩ <;> rcases hb with ⟨k, rfl, hk⟩ | ⟨k, rfl, hk⟩
  · rw [(nI_eq (by omega) (by omega)).mp (show nI j = nI k from h)]
  · exact (key hj hk h).elim
  · exact (key hk hj h.symm).elim
  · have := congrArg Int32.toInt (show -1 - nI j = -1 - nI k from h)
    rw [hy_toInt (by omega), hy_toInt (by omega)] at this
    rw [show j = k by omega]
theorem node_eq {D : Nat → Fm} {c : Nat} {z g e : Int32} {a b : Nat × Tm} (hc : c ≤ 20000) (hD : ∀ i j, i < c → j < c → D i = D j → i = j) (ha : agX D c z a g) (hb : agX D c z b e) (h1 : a.1 = b.1) (na : nmB a) (nb : nmB b) (la : nlB a) (lb : nlB b) : g = e ↔ a = b := by
  constructor
  · intro h
    refine Prod.ext h1 ?_
    by_cases q : a.1 = 1
    · exact nv_inj (na q) (nb (h1 ▸ q)) (by rw [← ha.1 q, ← hb.1 (h1 ▸ q), h])
    · by_cases t : tf a.1
      · obtain ⟨i, i1, i2, i3⟩ := ha.2.1 t
        obtain ⟨j, j1, j2, j3⟩ := hb.2.1 (h1 ▸ t)
        rw [i2, j2] at h
        rw [← i3, ← j3, (nI_eq (by omega) (by omega)).mp h]
      · rw [la q t, lb (h1 ▸ q) (h1 ▸ t)]
  · intro h
    subst h
    by_cases q : a.1 = 1
    · rw [ha.1 q, hb.1 q]
    · by_cases t : tf a.1
      · obtain ⟨i, i1, i2, i3⟩ := ha.2.1 t
        obtain ⟨j, j1, j2, j3⟩ := hb.2.1 t
        rw [i2, j2, hD i j i1 j1 (i3.trans j3.symm)]
      · rw [ha.2.2 q t, hb.2.2 q t]
/-- a row with names in bounds -/
def nmL (l : List (Nat × Tm)) : Prop := ∀ nd, nd ∈ l → nmB nd ∧ nlB nd
theorem drop_c {l : List (Nat × Tm)} {i : Nat} (h : i < l.length) : l.drop i = (opl l i, lbl l i) :: l.drop (i + 1) := by
  rw [List.drop_eq_getElem_cons h]
  have := opl_get h
  rw [List.getElem?_eq_getElem h] at this
  rw [Option.some.inj this]
section EQL
variable {M : Mem} {c : Nat}
theorem same_loop (hW : Wd M) (hT : TabC M c) {tr tq : Nat} (h1 : TOb tr) (h2 : TOb tq) {l1 l2 : List (Nat × Tm)} (hR : RowC M tr c l1) (hQ : RowC M tq c l2) (n1 : nmL l1) (n2 : nmL l2) (hl : l1.length = l2.length) (k : Nat) : ∀ z i, i + z = l1.length → (l1.drop i = l2.drop i → lp (st_X9_sameAs k) (15, [.ref tr, .ref tq, .int (nI i)], M) = some (1, M)) ∧ (l1.drop i ≠ l2.drop i → lp (st_X9_sameAs k) (15, [.ref tr, .ref tq, .int (nI i)], M) = some (0, M)) := by
  have h20 := hR.2.1
  have hc := hT.2.1
  obtain ⟨t1, t2, t3, t4, t5, t6, t7, t8⟩ := TO_at hW h1
  obtain ⟨q1, q2, q3, q4, q5, q6, q7, q8⟩ := TO_at hW h2
  intro z
  induction z with
  | zero =>
    intro i hi
    have e1 : l1.drop i = l2.drop i := by rw [List.drop_eq_nil_of_le (by omega), List.drop_eq_nil_of_le (by omega)]
    refine ⟨fun _ => ?_, fun q => absurd e1 q⟩
    refine (ge_X9_sameAs_15 k tr tq (nI i) M).trans ?_
    unfold T_X9_sameAs_15
    simp (disch := omega) only [↓gd_pos (fO_T hW h1), hR.1, nI_le_, eq_true (show l1.length ≤ i by omega), ↓reduceIte]
  | succ z ih =>
    intro i hi
    have i1 : i < l1.length := by omega
    have i2 : i < l2.length := by omega
    obtain ⟨ih1, ih2⟩ := ih (i + 1) (by omega)
    have a1 := hR.op i1
    have b1 := hQ.op i2
    have o1 := hR.2.2.1.at_ i1
    have o2 := hQ.2.2.1.at_ i2
    have hA1 := fA_R hW t7 t4 (show i < 200 by omega) (by omega)
    have hA2 := fA_R hW t8 t5 (show i < 200 by omega) (by omega)
    have hB1 := fA_R hW q7 q4 (show i < 200 by omega) (by omega)
    have hB2 := fA_R hW q8 q5 (show i < 200 by omega) (by omega)
    have m1 := n1 _ (List.mem_of_getElem? (opl_get i1))
    have m2 := n2 _ (List.mem_of_getElem? (opl_get i2))
    rw [drop_c i1, drop_c i2]
    have st : lp (st_X9_sameAs k) (15, [.ref tr, .ref tq, .int (nI i)], M) = if nI (opl l1 i) = nI (opl l2 i) then (if M.2.2.1 (tr + 2) i = M.2.2.1 (tq + 2) i then lp (st_X9_sameAs k) (15, [.ref tr, .ref tq, .int (nI (i + 1))], M) else some (0, M)) else some (0, M) := by
      refine (ge_X9_sameAs_15 k tr tq (nI i) M).trans ?_
      unfold T_X9_sameAs_15
      simp (disch := omega) only [↓gd_pos (fO_T hW h1), hR.1, nI_le_, eq_false (show ¬ l1.length ≤ i by omega), ↓reduceIte, show (200 : Int32) = nI 200 from rfl, eq_false (show ¬ 200 ≤ i by omega), ↓bnd_of t2, ↓bnd_of t3, ↓bnd_of q2, ↓bnd_of q3, ↓gd_pos hA1, ↓gd_pos hA2, ↓gd_pos (fO_T hW h2), ↓gd_pos hB1, ↓gd_pos hB2, nI_z, a1, b1, nI_1]
    by_cases e1 : opl l1 i = opl l2 i
    · have ne := node_eq (D := dC M) (z := 0) (by omega) (fun i j hi hj e => hT.inj hi hj e) (hR.ag i1) (hQ.ag i2) e1 m1.1 m2.1 m1.2 m2.2
      rw [st, if_pos (by rw [e1])]
      by_cases e2 : M.2.2.1 (tr + 2) i = M.2.2.1 (tq + 2) i
      · rw [if_pos e2]
        have e3 := ne.mp e2
        exact ⟨fun q => ih1 (List.cons.inj q).2, fun q => ih2 (fun y => q (by rw [e3, y]))⟩
      · rw [if_neg e2]
        exact ⟨fun q => absurd (ne.mpr (List.cons.inj q).1) e2, fun _ => rfl⟩
    · rw [st, if_neg (fun q => e1 ((nI_eq (by omega) (by omega)).mp q))]
      exact ⟨fun q => absurd (congrArg Prod.fst (List.cons.inj q).1) e1, fun _ => rfl⟩
theorem c_sameAs (hW : Wd M) (hT : TabC M c) {tr tq : Nat} (h1 : TOb tr) (h2 : TOb tq) {l1 l2 : List (Nat × Tm)} (hR : RowC M tr c l1) (hQ : RowC M tq c l2) (n1 : nmL l1) (n2 : nmL l2) (k : Nat) : (l1 = l2 → f_X9_sameAs k tr tq M = some (1, M)) ∧ (l1 ≠ l2 → f_X9_sameAs k tr tq M = some (0, M)) := by
  have h20 := hR.2.1
  have h21 := hQ.2.1
  have e0 : f_X9_sameAs k tr tq M = if nI l1.length = nI l2.length then lp (st_X9_sameAs k) (15, [.ref tr, .ref tq, .int (nI 0)], M) else some (0, M) := by
    refine (ge_X9_sameAs_0 k tr tq M).trans ?_
    unfold T_X9_sameAs_0
    simp only [↓gd_pos (fO_T hW h1), ↓gd_pos (fO_T hW h2), hR.1, hQ.1]
    rfl
  rw [e0]
  by_cases hl : l1.length = l2.length
  · rw [if_pos (by rw [hl])]
    have := same_loop hW hT h1 h2 hR hQ n1 n2 hl k l1.length 0 (by omega)
    rw [List.drop_zero, List.drop_zero] at this
    exact this
  · rw [if_neg (fun q => hl ((nI_eq (by omega) (by omega)).mp q))]
    exact ⟨fun q => absurd (congrArg List.length q) hl, fun _ => rfl⟩
/-- what was kept beside, in the reference -/
def ThR (M : Mem) (c : Nat) (l : List (Nat × Tm)) : Prop := M.2.2.1 89 59 = nI l.length ∧ l.length ≤ 200 ∧ RowR M 123 124 0 c l
def SKb (a k : Nat) : Prop := (a = 89 ∧ k = 59) ∨ a = 123 ∨ a = 124
theorem ThR.mv {M1 : Mem} {c1 : Nat} {l : List (Nat × Tm)} (h : ThR M c l) {S : Nat → Nat → Prop} (hF : Fr S M M1) (hS : ∀ a k, S a k → ¬ SKb a k) (hd : ∀ i, i < c → dR M1 i = dR M i) (hc : c ≤ c1) : ThR M1 c1 l := ⟨(hF.int (fun q => hS _ _ q (by unfold SKb; omega))).trans h.1, h.2.1, h.2.2.mv (fun i _ => hF.int (fun q => hS _ _ q (by unfold SKb; omega))) (fun i _ => hF.int (fun q => hS _ _ q (by unfold SKb; omega))) hd hc⟩
theorem kb_loop (hW : Wd M) {m : Nat} (hm : m ≤ 200) (h24 : M.2.2.1 89 24 = nI m) (k : Nat) : ∀ z j, j + z = m → ∀ M1, Fr SKb M M1 → M1.2.2.1 89 59 = nI m → (∀ u, u < j → M1.2.2.1 123 u = M.2.2.1 105 u ∧ M1.2.2.1 124 u = M.2.2.1 106 u) → ∃ M2, lp (st_X11_keepsBeside k) (10, [.ref 89, .int (nI j)], M1) = some ((), M2) ∧ Fr SKb M M2 ∧ M2.2.2.1 89 59 = nI m ∧ ∀ u, u < m → M2.2.2.1 123 u = M.2.2.1 105 u ∧ M2.2.2.1 124 u = M.2.2.1 106 u := by
  intro z
  induction z with
  | zero =>
    intro j hj M1 hF h59 hu
    have e : j = m := by omega
    subst e
    have hW1 := hF.Wd hW
    have g24 : M1.2.2.1 89 24 = nI j := (hF.int (by unfold SKb; omega)).trans h24
    refine ⟨M1, ?_, hF, h59, hu⟩
    refine (ge_X11_keepsBeside_10 k 89 (nI j) M1).trans ?_
    unfold T_X11_keepsBeside_10
    simp (disch := omega) only [↓gd_pos (fO_R hW1), g24, nI_le_, Nat.le_refl, ↓reduceIte]
  | succ z ih =>
    intro j hj M1 hF h59 hu
    have hW1 := hF.Wd hW
    have g24 : M1.2.2.1 89 24 = nI m := (hF.int (by unfold SKb; omega)).trans h24
    have hA5 := fA_R hW1 (a := 105) (by omega) (s_105 hW1) (show j < 400 by omega) (by omega)
    have hA6 := fA_R hW1 (a := 106) (by omega) (s_106 hW1) (show j < 400 by omega) (by omega)
    have hA7 := fA_R hW1 (a := 123) (by omega) (s_123 hW1) (show j < 200 by omega) (by omega)
    have hA8 := fA_R hW1 (a := 124) (by omega) (s_124 hW1) (show j < 200 by omega) (by omega)
    have i5 : M1.2.2.1 105 j = M.2.2.1 105 j := hF.int (by unfold SKb; omega)
    have i6 : M1.2.2.1 106 j = M.2.2.1 106 j := hF.int (by unfold SKb; omega)
    obtain ⟨M2, e2, F2, g2, u2⟩ := ih (j + 1) (by omega) (wI (wI M1 123 j (M.2.2.1 105 j)) 124 j (M.2.2.1 106 j)) ((hF.wI (by unfold SKb; omega) _).wI (by unfold SKb; omega) _) (by simp [up2_if, h59]) (fun u hu2 => by
      by_cases q : u = j
      · subst q
        exact ⟨by simp [up2_if], by simp [up2_if]⟩
      · have := hu u (by omega)
        exact ⟨by simp [up2_if, q, this.1], by simp [up2_if, q, this.2]⟩)
    refine ⟨M2, Eq.trans ?_ e2, F2, g2, u2⟩
    refine (ge_X11_keepsBeside_10 k 89 (nI j) M1).trans ?_
    unfold T_X11_keepsBeside_10
    simp (disch := omega) only [↓gd_pos (fO_R hW1), g24, nI_le_, eq_false (show ¬ m ≤ j by omega), ↓reduceIte, ↓bnd_of (r_89_20 hW1), ↓bnd_of (r_89_21 hW1), ↓bnd_of (r_89_57 hW1), ↓bnd_of (r_89_58 hW1), ↓gd_pos hA5, ↓gd_pos hA6, ↓gd_pos hA7, ↓gd_pos hA8, nI_z, i5, nI_1, up2_if, Nat.reduceEqDiff, false_and, if_false, i6]
theorem rx_keepsBeside (hW : Wd M) {l : List (Nat × Tm)} (hR : WrkR M c l) (hl : l.length ≤ 200) (k : Nat) : ∃ M1, f_X11_keepsBeside k 89 M = some ((), M1) ∧ Fr SKb M M1 ∧ ThR M1 c l := by
  obtain ⟨M2, e2, F2, g2, u2⟩ := kb_loop hW hl hR.1 k l.length 0 (by omega) (wI M 89 59 (nI l.length)) (Fr.refl.wI (by unfold SKb; omega) _) (by simp [up2_if]) (fun u hu => by omega)
  refine ⟨M2, ?_, F2, g2, hl, hR.2.2.1, fun i nd hi => ?_⟩
  · refine (ge_X11_keepsBeside_0 k 89 M).trans ?_
    unfold T_X11_keepsBeside_0
    simp only [↓gd_pos (fO_R hW), hR.1]
    exact e2
  · obtain ⟨a1, a2⟩ := hR.2.2.2 i nd hi
    rw [Nat.zero_add] at a1 a2 ⊢
    have := u2 i (opl_of hi).2.2
    rw [this.1, this.2]
    exact ⟨a1, a2.mv (fun j _ => by rw [dR_fq F2.q (fun k q => by unfold SKb at q; omega) (fun k q => by unfold SKb at q; omega) (fun k q => by unfold SKb at q; omega)]) (Nat.le_refl _)⟩
theorem th_loop (hW : Wd M) (hT : TabR M c) {l1 l2 : List (Nat × Tm)} (hR : WrkR M c l1) (hQ : ThR M c l2) (n1 : nmL l1) (n2 : nmL l2) (hl : l1.length = l2.length) (k : Nat) : ∀ z i, i + z = l1.length → (l1.drop i = l2.drop i → lp (st_X11_isThen k) (19, [.ref 89, .int 1, .int (nI i)], M) = some (1, M)) ∧ (l1.drop i ≠ l2.drop i → lp (st_X11_isThen k) (19, [.ref 89, .int 1, .int (nI i)], M) = some (0, M)) := by
  have h20 := hQ.2.1
  have hc := hT.2.1
  intro z
  induction z with
  | zero =>
    intro i hi
    have e1 : l1.drop i = l2.drop i := by rw [List.drop_eq_nil_of_le (by omega), List.drop_eq_nil_of_le (by omega)]
    refine ⟨fun _ => ?_, fun q => absurd e1 q⟩
    refine (ge_X11_isThen_19 k 89 1 (nI i) M).trans ?_
    unfold T_X11_isThen_19
    simp (disch := omega) only [↓gd_pos (fO_R hW), hR.1, nI_le_, eq_true (show l1.length ≤ i by omega), ↓reduceIte, nar_b1, gd_true]
  | succ z ih =>
    intro i hi
    have i1 : i < l1.length := by omega
    have i2 : i < l2.length := by omega
    obtain ⟨ih1, ih2⟩ := ih (i + 1) (by omega)
    have a1 := hR.kd i1
    have a2 := hR.ag i1
    obtain ⟨b1, b2⟩ := hQ.2.2.2 i _ (opl_get i2)
    rw [Nat.zero_add] at b1 b2
    have o1 := hR.2.2.1.at_ i1
    have o2 := hQ.2.2.1.at_ i2
    have hA5 := fA_R hW (a := 105) (by omega) (s_105 hW) (show i < 400 by omega) (by omega)
    have hA6 := fA_R hW (a := 106) (by omega) (s_106 hW) (show i < 400 by omega) (by omega)
    have hA7 := fA_R hW (a := 123) (by omega) (s_123 hW) (show i < 200 by omega) (by omega)
    have hA8 := fA_R hW (a := 124) (by omega) (s_124 hW) (show i < 200 by omega) (by omega)
    have m1 := n1 _ (List.mem_of_getElem? (opl_get i1))
    have m2 := n2 _ (List.mem_of_getElem? (opl_get i2))
    rw [drop_c i1, drop_c i2]
    have no : ∀ i, i ≤ l1.length → lp (st_X11_isThen k) (19, [.ref 89, .int 0, .int (nI i)], M) = some (0, M) := by
      intro i hi
      refine (ge_X11_isThen_19 k 89 0 (nI i) M).trans ?_
      unfold T_X11_isThen_19
      by_cases q : l1.length ≤ i
      · simp (disch := omega) only [↓gd_pos (fO_R hW), hR.1, nI_le_, eq_true q, ↓reduceIte, nar_b0, gd_true]
      · simp (disch := omega) only [↓gd_pos (fO_R hW), hR.1, nI_le_, eq_false q, ↓reduceIte, nar_b0, gd_true]
    have st : lp (st_X11_isThen k) (19, [.ref 89, .int 1, .int (nI i)], M) = if nI (opl l1 i - 1) = nI (opl l2 i - 1) then (if M.2.2.1 106 i = M.2.2.1 124 i then lp (st_X11_isThen k) (19, [.ref 89, .int 1, .int (nI (i + 1))], M) else some (0, M)) else some (0, M) := by
      refine (ge_X11_isThen_19 k 89 1 (nI i) M).trans ?_
      unfold T_X11_isThen_19
      simp (disch := omega) only [↓gd_pos (fO_R hW), hR.1, nI_le_, eq_false (show ¬ l1.length ≤ i by omega), ↓reduceIte, show ((1 : Int32) = 0) = False from eq_false (by decide), ↓bnd_of (r_89_20 hW), ↓bnd_of (r_89_21 hW), ↓bnd_of (r_89_57 hW), ↓bnd_of (r_89_58 hW), ↓gd_pos hA5, ↓gd_pos hA6, ↓gd_pos hA7, ↓gd_pos hA8, nI_z, a1, b1, nI_1, no (i + 1) (by omega)]
    by_cases e1 : opl l1 i = opl l2 i
    · have ne := node_eq (D := dR M) (z := -1) (by omega) (fun i j hi hj e => hT.inj hi hj e) a2 b2 e1 m1.1 m2.1 m1.2 m2.2
      rw [st, if_pos (by rw [e1])]
      by_cases e2 : M.2.2.1 106 i = M.2.2.1 124 i
      · rw [if_pos e2]
        have e3 := ne.mp e2
        exact ⟨fun q => ih1 (List.cons.inj q).2, fun q => ih2 (fun y => q (by rw [e3, y]))⟩
      · rw [if_neg e2]
        exact ⟨fun q => absurd (ne.mpr (List.cons.inj q).1) e2, fun _ => rfl⟩
    · rw [st, if_neg (fun q => e1 (by have := (nI_eq (by omega) (by omega)).mp q; omega))]
      exact ⟨fun q => absurd (congrArg Prod.fst (List.cons.inj q).1) e1, fun _ => rfl⟩
theorem rx_isThen (hW : Wd M) (hT : TabR M c) {l1 l2 : List (Nat × Tm)} (hR : WrkR M c l1) (hQ : ThR M c l2) (n1 : nmL l1) (n2 : nmL l2) (k : Nat) : (l1 = l2 → f_X11_isThen k 89 M = some (1, M)) ∧ (l1 ≠ l2 → f_X11_isThen k 89 M = some (0, M)) := by
  have h20 := hR.2.1
  have h21 := hQ.2.1
  have e0 : f_X11_isThen k 89 M = if nI l1.length = nI l2.length then lp (st_X11_isThen k) (19, [.ref 89, .int 1, .int (nI 0)], M) else lp (st_X11_isThen k) (19, [.ref 89, .int 0, .int (nI 0)], M) := by
    refine (ge_X11_isThen_0 k 89 M).trans ?_
    unfold T_X11_isThen_0
    simp only [↓gd_pos (fO_R hW), hR.1, hQ.1]
    rfl
  rw [e0]
  by_cases hl : l1.length = l2.length
  · rw [if_pos (by rw [hl])]
    have := th_loop hW hT hR hQ n1 n2 hl k l1.length 0 (by omega)
    rw [List.drop_zero, List.drop_zero] at this
    exact this
  · rw [if_neg (fun q => hl ((nI_eq (by omega) (by omega)).mp q))]
    refine ⟨fun q => absurd (congrArg List.length q) hl, fun _ => ?_⟩
    refine (ge_X11_isThen_19 k 89 0 (nI 0) M).trans ?_
    unfold T_X11_isThen_19
    by_cases q : l1.length ≤ 0
    · simp (disch := omega) only [↓gd_pos (fO_R hW), hR.1, nI_le_, eq_true q, ↓reduceIte, nar_b0, gd_true]
    · simp (disch := omega) only [↓gd_pos (fO_R hW), hR.1, nI_le_, eq_false q, ↓reduceIte, nar_b0, gd_true]
theorem nmL_of {P : Fm → Prop} {h : Nat} {H : Nat → Fm} {t : Tm} {x : Fm} (hh : h ≤ 6) (ht : isT t) (h2 : sz t ≤ 200) (hw : Wc P h H t 0 gN 0 x) : nmL (rws t) := fun nd hn => ⟨scp_nm t ht (hw.sco hh t ht).1 (by omega) nd hn, rws_nl t ht nd hn⟩
end EQL
