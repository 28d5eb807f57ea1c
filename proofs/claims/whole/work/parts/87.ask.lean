/-! ASK in the class: one node -/
def PvE (M : Mem) (c : Nat) (r : Option (Int32 × Mem)) (x : Fm) : Prop := ∃ v c1 M1, r = some (nI v, M1) ∧ v < c1 ∧ c ≤ c1 ∧ c1 ≤ c + 1 ∧ TabC M1 c1 ∧ dC M1 v = x ∧ (∀ i, i < c → dC M1 i = dC M i) ∧ Fr SF M M1 ∧ ((∃ i, i < c ∧ dC M i = x) → M1 = M ∧ c1 = c)
theorem bnd_of.{u} {α : Sort u} {β : Type} {x : Option β} {b : β} {N : α} {k : β → α} (h : x = some b) : bnd x N k = k b := by rw [h]; rfl
theorem bnd2_of.{u} {α : Sort u} {β : Type} {x : Option (β × Mem)} {b : β} {m : Mem} {N : α} {k : β → Mem → α} (h : x = some (b, m)) : bnd2 x N k = k b m := by rw [h]; rfl
section AK
variable {M : Mem} {tr c : Nat} {l : List (Nat × Tm)}
theorem PvE.same (hT : TabC M c) {v : Nat} {x : Fm} (hv : v < c) (e : dC M v = x) {r : Option (Int32 × Mem)} (hr : r = some (nI v, M)) : PvE M c r x := ⟨v, c, M, hr, hv, Nat.le_refl _, by omega, hT, e, fun _ _ => rfl, Fr.refl, fun _ => ⟨rfl, rfl⟩⟩
theorem c_typeOf_tot (hW : Wd M) (k : Nat) (x : Int32) : ∃ v, f_X3_typeOf k 40 x M = some (v, M) := by
  by_cases h : x < 0
  · refine ⟨-1, ?_⟩
    unfold f_X3_typeOf b_X3_typeOf
    simp only [T_X3_typeOf_0, h, if_true]
  · obtain ⟨j, hj, rfl⟩ := nI_of h
    by_cases h2 : j < 200
    · exact ⟨_, c_typeOf hW k h2⟩
    · refine ⟨-1, ?_⟩
      unfold f_X3_typeOf b_X3_typeOf
      simp (disch := omega) only [T_X3_typeOf_0, nI_lt0, if_false, show (200 : Int32) = nI 200 from rfl, nI_le_]
      rw [if_pos (by omega)]
theorem c_endOf_tot (hW : Wd M) (k : Nat) (x : Int32) : ∃ v, f_X3_endOf k 40 x M = some (v, M) := by
  by_cases h : x < 0
  · refine ⟨200, ?_⟩
    unfold f_X3_endOf b_X3_endOf
    simp only [T_X3_endOf_0, h, if_true]
  · obtain ⟨j, hj, rfl⟩ := nI_of h
    by_cases h2 : j < 200
    · exact ⟨_, c_endOf hW k h2⟩
    · refine ⟨200, ?_⟩
      unfold f_X3_endOf b_X3_endOf
      simp (disch := omega) only [T_X3_endOf_0, nI_lt0, if_false, show (200 : Int32) = nI 200 from rfl, nI_le_]
      rw [if_pos (by omega)]
set_option maxHeartbeats 1000000 in
theorem uf_free (hL : LtC M tr c l) (k : Nat) {p : Nat} (hp : p < l.length) (ho : opl l p = 1 ∨ opl l p = 2 ∨ opl l p = 4 ∨ opl l p = 7 ∨ opl l p = 8) : f_X3_unfitWithin (k + 1) 40 (nI p) M = some (-1, M) := by
  obtain ⟨hW, hr2, hT, hR⟩ := hL
  have t1 := (TO_at hW hT).1
  have t6 := (TO_at hW hT).2.2.2.2.2.1
  have hO : fO M 40 3 := ⟨by rw [hW.1]; omega, s_40 hW⟩
  have hOt : fO M tr 9 := ⟨by rw [hW.1]; exact t6, t1⟩
  have hO2 : fO M 2 1 := ⟨by rw [hW.1]; omega, s_2 hW⟩
  have h2 := hR.2.1
  obtain ⟨v3, e3⟩ := c_endOf_tot hW k (nI (p + 1))
  obtain ⟨v10, e10⟩ := c_typeOf_tot hW k (nI (p + 1))
  have eo := c_opAt hW hT hR k hp
  refine (ge_X3_unfitWithin_0 (k + 1) 40 (nI p) M).trans ?_
  have hor := hR.2.2.1.at_ hp
  simp only [T_X3_unfitWithin_0, cal_s, nI_1]
  simp (disch := omega) only [↓reduceIte, ↓gd_pos hO, ↓gd_pos hOt, ↓gd_pos hO2, ↓bnd_of hr2, ↓bnd_of (r_40_0 hW), ↓bnd2_of e3, ↓bnd2_of e10, ↓bnd2_of eo, nI_1, show (3 : Int32) = nI 3 from rfl, show (4 : Int32) = nI 4 from rfl, show (5 : Int32) = nI 5 from rfl, show (6 : Int32) = nI 6 from rfl, show (7 : Int32) = nI 7 from rfl, show (8 : Int32) = nI 8 from rfl, show (9 : Int32) = nI 9 from rfl, show (10 : Int32) = nI 10 from rfl, nI_eq_, eq_false (show ¬ opl l p = 3 by omega), eq_false (show ¬ opl l p = 5 by omega), eq_false (show ¬ opl l p = 6 by omega), eq_false (show ¬ opl l p = 9 by omega), eq_false (show ¬ opl l p = 10 by omega), if_false, ite_self]
set_option maxHeartbeats 1000000 in
theorem uf_and (hL : LtC M tr c l) (hTb : TabC M c) (k : Nat) {p v : Nat} (hp : p + 1 < l.length) (ho : opl l p = 5 ∨ opl l p = 6) (hv : v < c) (e : M.2.2.1 48 (p + 1) = nI v) : f_X3_unfitWithin (k + 1) 40 (nI p) M = some (if kdf (dC M v) = 10 then -1 else nI (p + 1), M) := by
  obtain ⟨hW, hr2, hT, hR⟩ := hL
  have t1 := (TO_at hW hT).1
  have t6 := (TO_at hW hT).2.2.2.2.2.1
  have hO : fO M 40 3 := ⟨by rw [hW.1]; omega, s_40 hW⟩
  have hOt : fO M tr 9 := ⟨by rw [hW.1]; exact t6, t1⟩
  have hO2 : fO M 2 1 := ⟨by rw [hW.1]; omega, s_2 hW⟩
  have h2 := hR.2.1
  have h5 := hTb.2.1
  obtain ⟨v3, e3⟩ := c_endOf_tot hW k (nI (p + 1))
  have e10 := c_typeOf hW k (i := p + 1) (by omega)
  rw [e] at e10
  have eo := c_opAt hW hT hR k (i := p) (by omega)
  obtain ⟨k1, k2, -⟩ := hTb.kd hv
  have ek := c_kindOf hW hTb k hv
  rw [k1] at ek
  have e111 : lp (st_X3_unfitWithin (k + 1)) (111, [.ref 40, .int (nI (p + 1)), .int (nI v)], M) = some (if kdf (dC M v) = 10 then -1 else nI (p + 1), M) := by
    refine (ge_X3_unfitWithin_111 (k + 1) 40 _ _ M).trans ?_
    simp only [T_X3_unfitWithin_111, cal_s]
    simp (disch := omega) only [↓gd_pos hO, ↓bnd_of (r_40_0 hW), ↓gd_pos hO2, ↓bnd2_of ek, show (10 : Int32) = nI 10 from rfl, nI_eq_]
    split <;> rfl
  refine (ge_X3_unfitWithin_0 (k + 1) 40 (nI p) M).trans ?_
  rcases ho with h | h
  · simp only [T_X3_unfitWithin_0, cal_s, nI_1]
    simp (disch := omega) only [↓reduceIte, ↓gd_pos hO, ↓gd_pos hOt, ↓gd_pos hO2, ↓bnd_of hr2, ↓bnd_of (r_40_0 hW), ↓bnd2_of e3, ↓bnd2_of e10, ↓bnd2_of eo, nI_1, show (3 : Int32) = nI 3 from rfl, show (4 : Int32) = nI 4 from rfl, show (5 : Int32) = nI 5 from rfl, show (6 : Int32) = nI 6 from rfl, nI_eq_, eq_false (show ¬ opl l p = 3 by omega), eq_false (show ¬ opl l p = 4 by omega), eq_true (show opl l p = 5 by omega), if_false, if_true, e111]
  · simp only [T_X3_unfitWithin_0, cal_s, nI_1]
    simp (disch := omega) only [↓reduceIte, ↓gd_pos hO, ↓gd_pos hOt, ↓gd_pos hO2, ↓bnd_of hr2, ↓bnd_of (r_40_0 hW), ↓bnd2_of e3, ↓bnd2_of e10, ↓bnd2_of eo, nI_1, show (3 : Int32) = nI 3 from rfl, show (4 : Int32) = nI 4 from rfl, show (5 : Int32) = nI 5 from rfl, show (6 : Int32) = nI 6 from rfl, nI_eq_, eq_false (show ¬ opl l p = 3 by omega), eq_false (show ¬ opl l p = 4 by omega), eq_false (show ¬ opl l p = 5 by omega), eq_true (show opl l p = 6 by omega), if_false, if_true, e111]
set_option maxHeartbeats 1000000 in
theorem uf_abort (hL : LtC M tr c l) (k : Nat) {p v : Nat} (hp : p + 1 < l.length) (ho : opl l p = 10) (hv : v < 10000) (e : M.2.2.1 48 (p + 1) = nI v) : f_X3_unfitWithin (k + 1) 40 (nI p) M = some (if v = 8 then -1 else nI (p + 1), M) := by
  obtain ⟨hW, hr2, hT, hR⟩ := hL
  have t1 := (TO_at hW hT).1
  have t6 := (TO_at hW hT).2.2.2.2.2.1
  have hO : fO M 40 3 := ⟨by rw [hW.1]; omega, s_40 hW⟩
  have hOt : fO M tr 9 := ⟨by rw [hW.1]; exact t6, t1⟩
  have hO2 : fO M 2 1 := ⟨by rw [hW.1]; omega, s_2 hW⟩
  have h2 := hR.2.1
  obtain ⟨v3, e3⟩ := c_endOf_tot hW k (nI (p + 1))
  have e10 := c_typeOf hW k (i := p + 1) (by omega)
  rw [e] at e10
  have eo := c_opAt hW hT hR k (i := p) (by omega)
  refine (ge_X3_unfitWithin_0 (k + 1) 40 (nI p) M).trans ?_
  simp only [T_X3_unfitWithin_0, cal_s, nI_1]
  simp (disch := omega) only [↓reduceIte, ↓gd_pos hO, ↓gd_pos hOt, ↓gd_pos hO2, ↓bnd_of hr2, ↓bnd_of (r_40_0 hW), ↓bnd2_of e3, ↓bnd2_of e10, ↓bnd2_of eo, nI_1, show (3 : Int32) = nI 3 from rfl, show (4 : Int32) = nI 4 from rfl, show (5 : Int32) = nI 5 from rfl, show (6 : Int32) = nI 6 from rfl, show (7 : Int32) = nI 7 from rfl, show (8 : Int32) = nI 8 from rfl, show (9 : Int32) = nI 9 from rfl, show (10 : Int32) = nI 10 from rfl, nI_eq_, eq_false (show ¬ opl l p = 3 by omega), eq_false (show ¬ opl l p = 4 by omega), eq_false (show ¬ opl l p = 5 by omega), eq_false (show ¬ opl l p = 6 by omega), eq_false (show ¬ opl l p = 7 by omega), eq_false (show ¬ opl l p = 8 by omega), eq_false (show ¬ opl l p = 9 by omega), eq_true (show opl l p = 10 by omega), if_false, if_true]
  split <;> rfl
set_option maxHeartbeats 1000000 in
theorem uf_app (hL : LtC M tr c l) (hTb : TabC M c) (k : Nat) {p q v w : Nat} (hp : p + 1 < l.length) (hq : q < 200) (ho : opl l p = 3) (hv : v < c) (hw : w < c) (eq : M.2.2.1 41 (p + 1) = nI q) (e : M.2.2.1 48 (p + 1) = nI v) (e2 : M.2.2.1 48 q = nI w) : (∀ y, dC M v = .add (dC M w) y → f_X3_unfitWithin (k + 1) 40 (nI p) M = some (-1, M)) ∧ ((∀ y, dC M v ≠ .add (dC M w) y) → f_X3_unfitWithin (k + 1) 40 (nI p) M = some (nI (if kdf (dC M v) = 9 then q else p + 1), M)) := by
  obtain ⟨hW, hr2, hT, hR⟩ := hL
  have t1 := (TO_at hW hT).1
  have t6 := (TO_at hW hT).2.2.2.2.2.1
  have hO : fO M 40 3 := ⟨by rw [hW.1]; omega, s_40 hW⟩
  have hOt : fO M tr 9 := ⟨by rw [hW.1]; exact t6, t1⟩
  have hO2 : fO M 2 1 := ⟨by rw [hW.1]; omega, s_2 hW⟩
  have h2 := hR.2.1
  have h5 := hTb.2.1
  have e3 := c_endOf hW k (i := p + 1) (by omega)
  rw [eq] at e3
  have e10 := c_typeOf hW k (i := p + 1) (by omega)
  rw [e] at e10
  have e41 := c_typeOf hW k hq
  rw [e2] at e41
  have eo := c_opAt hW hT hR k (i := p) (by omega)
  obtain ⟨k1, k2, k3⟩ := hTb.kd hv
  have ek := c_kindOf hW hTb k hv
  rw [k1] at ek
  have el := c_leftOf hW hTb k hv
  constructor
  · intro y hy
    obtain ⟨a, b, ha, hb, m4, m5, ea, eb⟩ := hTb.two hv (j := 9) (by omega) (by omega) (x := dC M w) (y := y) hy
    have : a = w := hTb.inj ha hw ea
    subst this
    rw [m4] at el
    rw [hy, show kdf (.add (dC M a) y) = 9 from rfl] at ek
    refine (ge_X3_unfitWithin_0 (k + 1) 40 (nI p) M).trans ?_
    simp only [T_X3_unfitWithin_0, cal_s, nI_1]
    simp (disch := omega) only [↓reduceIte, ↓gd_pos hO, ↓gd_pos hOt, ↓gd_pos hO2, ↓bnd_of hr2, ↓bnd_of (r_40_0 hW), ↓bnd2_of e3, ↓bnd2_of e10, ↓bnd2_of eo, nI_1, show (3 : Int32) = nI 3 from rfl, nI_eq_, eq_true (show opl l p = 3 by omega), ↓bnd2_of ek, show (nI 9 = (9 : Int32)) = True from eq_true rfl, ↓bnd2_of e41, ↓bnd2_of el]
  · intro hn
    refine (ge_X3_unfitWithin_0 (k + 1) 40 (nI p) M).trans ?_
    by_cases h9 : kdf (dC M v) = 9
    · obtain ⟨x, y, exy⟩ := kdf_of (j := 9) (by omega) (by omega) h9 (fun k e => (k3 k e).1)
      obtain ⟨a, b, ha, hb, m4, m5, ea, eb⟩ := hTb.two hv (j := 9) (by omega) (by omega) exy
      have hne : w ≠ a := by
        intro q
        subst q
        exact hn y (by rw [exy, ea]; rfl)
      rw [m4] at el
      rw [h9] at ek ⊢
      simp only [T_X3_unfitWithin_0, cal_s, nI_1]
      simp (disch := omega) only [↓reduceIte, ↓gd_pos hO, ↓gd_pos hOt, ↓gd_pos hO2, ↓bnd_of hr2, ↓bnd_of (r_40_0 hW), ↓bnd2_of e3, ↓bnd2_of e10, ↓bnd2_of eo, nI_1, show (3 : Int32) = nI 3 from rfl, nI_eq_, eq_true (show opl l p = 3 by omega), ↓bnd2_of ek, show (nI 9 = (9 : Int32)) = True from eq_true rfl, ↓bnd2_of e41, ↓bnd2_of el, hne]
    · rw [if_neg h9]
      simp only [T_X3_unfitWithin_0, cal_s, nI_1]
      simp (disch := omega) only [↓reduceIte, ↓gd_pos hO, ↓gd_pos hOt, ↓gd_pos hO2, ↓bnd_of hr2, ↓bnd_of (r_40_0 hW), ↓bnd2_of e3, ↓bnd2_of e10, ↓bnd2_of eo, nI_1, show (3 : Int32) = nI 3 from rfl, show (9 : Int32) = nI 9 from rfl, nI_eq_, eq_true (show opl l p = 3 by omega), ↓bnd2_of ek, h9]
set_option maxHeartbeats 1000000 in
theorem uf_case (hL : LtC M tr c l) (k : Nat) {p q r v w : Nat} (hp : p + 1 < l.length) (hq : q < 200) (hr : r < 200) (ho : opl l p = 9) (hv : v < 10000) (hw : w < 10000) (eq : M.2.2.1 41 (p + 1) = nI q) (er : M.2.2.1 41 q = nI r) (e : M.2.2.1 48 q = nI v) (e2 : M.2.2.1 48 r = nI w) : f_X3_unfitWithin (k + 1) 40 (nI p) M = some (if w = v then -1 else nI r, M) := by
  obtain ⟨hW, hr2, hT, hR⟩ := hL
  have t1 := (TO_at hW hT).1
  have t6 := (TO_at hW hT).2.2.2.2.2.1
  have hO : fO M 40 3 := ⟨by rw [hW.1]; omega, s_40 hW⟩
  have hOt : fO M tr 9 := ⟨by rw [hW.1]; exact t6, t1⟩
  have hO2 : fO M 2 1 := ⟨by rw [hW.1]; omega, s_2 hW⟩
  have h2 := hR.2.1
  have e3 := c_endOf hW k (i := p + 1) (by omega)
  rw [eq] at e3
  have e4 := c_endOf hW k hq
  rw [er] at e4
  obtain ⟨v10, e10⟩ := c_typeOf_tot hW k (nI (p + 1))
  have e5 := c_typeOf hW k hq
  rw [e] at e5
  have e6 := c_typeOf hW k hr
  rw [e2] at e6
  have eo := c_opAt hW hT hR k (i := p) (by omega)
  refine (ge_X3_unfitWithin_0 (k + 1) 40 (nI p) M).trans ?_
  simp only [T_X3_unfitWithin_0, cal_s, nI_1]
  simp (disch := omega) only [↓reduceIte, ↓gd_pos hO, ↓gd_pos hOt, ↓gd_pos hO2, ↓bnd_of hr2, ↓bnd_of (r_40_0 hW), ↓bnd2_of e3, ↓bnd2_of e10, ↓bnd2_of eo, nI_1, show (3 : Int32) = nI 3 from rfl, show (4 : Int32) = nI 4 from rfl, show (5 : Int32) = nI 5 from rfl, show (6 : Int32) = nI 6 from rfl, show (7 : Int32) = nI 7 from rfl, show (8 : Int32) = nI 8 from rfl, show (9 : Int32) = nI 9 from rfl, nI_eq_, eq_false (show ¬ opl l p = 3 by omega), eq_false (show ¬ opl l p = 4 by omega), eq_false (show ¬ opl l p = 5 by omega), eq_false (show ¬ opl l p = 6 by omega), eq_false (show ¬ opl l p = 7 by omega), eq_false (show ¬ opl l p = 8 by omega), eq_true (show opl l p = 9 by omega), ↓bnd2_of e4, ↓bnd2_of e5, ↓bnd2_of e6]
  split <;> rfl
end AK
