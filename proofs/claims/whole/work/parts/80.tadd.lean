/-! NODES are added to a Term, Terms taken over and compared, in the class -/
def SO (tr a k : Nat) : Prop := (a = tr ∧ (k = 2 ∨ k = 3)) ∨ a = tr + 1 ∨ a = tr + 2
theorem SO.not_low {tr a k : Nat} (hT : TOb tr) (h : SO tr a k) : 25 ≤ a ∧ a ≤ 65 := by
  unfold TOb at hT
  unfold SO at h
  omega
theorem SO.sep {tr tq a k : Nat} (hT : TOb tr) (hq : TOb tq) (hne : tr ≠ tq) (h : SO tr a k) : a ≠ tq ∧ a ≠ tq + 1 ∧ a ≠ tq + 2 := by
  unfold TOb at hT hq
  unfold SO at h
  omega
section TAD
variable {M M1 : Mem} {tr c : Nat} {l : List (Nat × Tm)}
theorem dC_fq {S : Nat → Nat → Prop} (hF : Fq S M M1) (h3 : ∀ k, ¬ S 3 k) (h4 : ∀ k, ¬ S 4 k) (h5 : ∀ k, ¬ S 5 k) : dC M1 = dC M := by
  funext i
  unfold dC
  rw [hF.ints h3, hF.ints h4, hF.ints h5]
theorem agC.mv {nd : Nat × Tm} {g : Int32} (h : agC M c nd g) (e : ∀ i, i < c → dC M1 i = dC M i) {c1 : Nat} (hc : c ≤ c1) : agC M1 c1 nd g := ⟨h.1, fun q => by
  obtain ⟨i, h1, h2, h3⟩ := h.2.1 q
  exact ⟨i, by omega, h2, (e i h1).trans h3⟩, h.2.2⟩
/-- a row stays, where nothing of it is written -/
theorem RowC.mv (h : RowC M tr c l) (e0 : M1.2.2.1 tr 2 = M.2.2.1 tr 2) (e1 : M1.2.2.1 (tr + 1) = M.2.2.1 (tr + 1)) (e2 : M1.2.2.1 (tr + 2) = M.2.2.1 (tr + 2)) (e : ∀ i, i < c → dC M1 i = dC M i) {c1 : Nat} (hc : c ≤ c1) : RowC M1 tr c1 l := by
  refine ⟨e0.trans h.1, h.2.1, h.2.2.1, fun i nd hi => ?_⟩
  obtain ⟨h1, h2⟩ := h.2.2.2 i nd hi
  rw [e1, e2]
  exact ⟨h1, h2.mv e hc⟩
/-- what is being written: all of it, or there was no room -/
def TgC (M : Mem) (tr c : Nat) (l : List (Nat × Tm)) : Prop := (M.2.2.1 tr 3 = 0 ∧ RowC M tr c l) ∨ (M.2.2.1 tr 3 = 1 ∧ M.2.2.1 tr 2 = nI 200 ∧ 200 < l.length)
theorem TgC.mv (h : TgC M tr c l) (e0 : ∀ k, M1.2.2.1 tr k = M.2.2.1 tr k) (e1 : M1.2.2.1 (tr + 1) = M.2.2.1 (tr + 1)) (e2 : M1.2.2.1 (tr + 2) = M.2.2.1 (tr + 2)) (e : ∀ i, i < c → dC M1 i = dC M i) {c1 : Nat} (hc : c ≤ c1) : TgC M1 tr c1 l := by
  rcases h with ⟨h1, h2⟩ | ⟨h1, h2, h3⟩
  · exact Or.inl ⟨(e0 3).trans h1, h2.mv (e0 2) e1 e2 e hc⟩
  · exact Or.inr ⟨(e0 3).trans h1, (e0 2).trans h2, h3⟩
theorem c_add (hW : Wd M) (hT : TOb tr) (hG : TgC M tr c l) (k : Nat) {o : Nat} {lb : Tm} {g : Int32} (h1 : 1 ≤ o) (h10 : o ≤ 10) (hg : agC M c (o, lb) g) : ∃ M1, f_X9_add k tr (nI o) g M = some ((), M1) ∧ Fr (SO tr) M M1 ∧ TgC M1 tr c (l ++ [(o, lb)]) := by
  obtain ⟨t1, t2, t3, t4, t5, t6, t7, t8⟩ := TO_at hW hT
  unfold f_X9_add b_X9_add
  rcases hG with ⟨g1, hR⟩ | ⟨g1, g2, g3⟩
  · have h2 := hR.2.1
    by_cases h : l.length < 200
    · refine ⟨wI (wI (wI M (tr + 1) l.length (nI o)) (tr + 2) l.length g) tr 2 (nI (l.length + 1)), ?_, ((Fr.refl.wI (Or.inr (Or.inl rfl)) _).wI (Or.inr (Or.inr rfl)) _).wI (Or.inl ⟨rfl, Or.inl rfl⟩) _, Or.inl ⟨?_, ?_⟩⟩
      · have n1 : tr ≠ tr + 1 := by omega
        have n2 : tr ≠ tr + 2 := by omega
        simp (disch := omega) only [T_X9_add_0, gd_true, fO, fA, ex_in, bnd_s, hW.1, t1, t2, t3, t4, t5, t6, t7, t8, and_self, true_and, hR.1, show (200 : Int32) = nI 200 from rfl, nI_lt_, nI_z, vp_iff, up2_if, n1, n2, false_and, if_false, nI_1, h, if_true]
      · show up2 _ tr 2 _ tr 3 = 0
        simp [up2_if, show tr ≠ tr + 1 by omega, show tr ≠ tr + 2 by omega, g1]
      · refine ⟨by simp [up2_if], by simp only [List.length_append, List.length_cons, List.length_nil]; omega, fun nd hn => ?_, fun i nd hi => ?_⟩
        · rw [List.mem_append, List.mem_singleton] at hn
          rcases hn with hn | rfl
          · exact hR.2.2.1 nd hn
          · exact ⟨h1, h10⟩
        · have hd : ∀ j, j < c → dC (wI (wI (wI M (tr + 1) l.length (nI o)) (tr + 2) l.length g) tr 2 (nI (l.length + 1))) j = dC M j := fun j _ => by
            have := dC_fq (M := M) (M1 := wI (wI (wI M (tr + 1) l.length (nI o)) (tr + 2) l.length g) tr 2 (nI (l.length + 1))) (S := SO tr) (((Fr.refl.wI (Or.inr (Or.inl rfl)) _).wI (Or.inr (Or.inr rfl)) _).wI (Or.inl ⟨rfl, Or.inl rfl⟩) _).q (fun k q => by have := q.not_low hT; omega) (fun k q => by have := q.not_low hT; omega) (fun k q => by have := q.not_low hT; omega)
            rw [this]
          by_cases hl : i < l.length
          · rw [List.getElem?_append_left hl] at hi
            obtain ⟨a1, a2⟩ := hR.2.2.2 i nd hi
            have e1 : i ≠ l.length := by omega
            simp only [up2_if, show tr + 1 ≠ tr by omega, show tr + 2 ≠ tr by omega, show tr + 1 ≠ tr + 2 by omega, show tr + 2 ≠ tr + 1 by omega, e1, false_and, and_false, if_false]
            exact ⟨a1, a2.mv hd (Nat.le_refl _)⟩
          · have e1 : i = l.length := by
              have := (opl_of hi).2.2
              simp only [List.length_append, List.length_cons, List.length_nil] at this
              omega
            subst e1
            rw [List.getElem?_append_right (Nat.le_refl _), Nat.sub_self] at hi
            cases hi
            simp only [up2_if, show tr + 1 ≠ tr by omega, show tr + 2 ≠ tr by omega, show tr + 1 ≠ tr + 2 by omega, show tr + 2 ≠ tr + 1 by omega, false_and, and_false, if_false, and_self, if_true, true_and]
            exact hg.mv hd (Nat.le_refl _)
    · have e200 : l.length = 200 := by omega
      refine ⟨wI M tr 3 1, ?_, Fr.refl.wI (Or.inl ⟨rfl, Or.inr rfl⟩) _, Or.inr ⟨by simp [up2_if], by simp [up2_if, hR.1, e200], by simp [e200]⟩⟩
      simp (disch := omega) only [T_X9_add_0, gd_true, fO, hW.1, t1, t6, and_self, hR.1, show (200 : Int32) = nI 200 from rfl, nI_lt_, h, if_false]
  · refine ⟨wI M tr 3 1, ?_, Fr.refl.wI (Or.inl ⟨rfl, Or.inr rfl⟩) _, Or.inr ⟨by simp [up2_if], by simp [up2_if, g2], by simp; omega⟩⟩
    simp (disch := omega) only [T_X9_add_0, gd_true, fO, hW.1, t1, t6, and_self, g2, show ((nI 200 : Int32) < 200) = False from eq_false (by decide), if_false]
theorem c_clear (hW : Wd M) (hT : TOb tr) (k : Nat) : ∃ M1, f_X9_clear k tr M = some ((), M1) ∧ Fr (SO tr) M M1 ∧ TgC M1 tr c [] := by
  obtain ⟨t1, t2, t3, t4, t5, t6, t7, t8⟩ := TO_at hW hT
  refine ⟨wI (wI M tr 2 0) tr 3 0, ?_, (Fr.refl.wI (Or.inl ⟨rfl, Or.inl rfl⟩) _).wI (Or.inl ⟨rfl, Or.inr rfl⟩) _, Or.inl ⟨by simp [up2_if], by simp [up2_if]; rfl, by simp, fun nd h => by simp at h, fun i nd h => by simp at h⟩⟩
  unfold f_X9_clear b_X9_clear
  simp only [T_X9_clear_0, gd_true, fO, hW.1, t1, t6, and_self]
theorem c_takeOver (hW : Wd M) (hT : TOb tr) {tq : Nat} (hQ : TOb tq) (hne : tr ≠ tq) (hR : RowC M tq c l) (k : Nat) : ∃ M1, f_X9_takeOver (k + 1) tr tq M = some ((), M1) ∧ Fr (SO tr) M M1 ∧ RowC M1 tr c l ∧ M1.2.2.1 tr 3 = 0 := by
  obtain ⟨t1, t2, t3, t4, t5, t6, t7, t8⟩ := TO_at hW hT
  obtain ⟨q1, q2, q3, q4, q5, q6, q7, q8⟩ := TO_at hW hQ
  have h2 := hR.2.1
  have hs : tq ≠ tr + 1 ∧ tq ≠ tr + 2 ∧ tq + 2 ≠ tr + 1 ∧ tq + 1 ≠ tr + 1 ∧ tq + 2 ≠ tr + 2 := by
    unfold TOb at hT hQ
    omega
  obtain ⟨s1, s2, s3, s4, s5⟩ := hs
  have c1 : fC M (tq + 1) 0 (tr + 1) 0 (nI l.length) (k + 1) := ⟨by omega, by rw [hW.1]; exact q7, by rw [hW.1]; exact t7, 200, 200, q4, t4, by decide, by decide, nI_pos (by omega), by rw [nI_z (by omega)]; simpa using h2, by rw [nI_z (by omega)]; simpa using h2⟩
  have c2 : fC (cpM M (tq + 1) 0 (tr + 1) 0 (nI l.length)) (tq + 2) 0 (tr + 2) 0 (nI l.length) (k + 1) := ⟨by omega, by show _ < M.1; rw [hW.1]; exact q8, by show _ < M.1; rw [hW.1]; exact t8, 200, 200, q5, t5, by decide, by decide, nI_pos (by omega), by rw [nI_z (by omega)]; simpa using h2, by rw [nI_z (by omega)]; simpa using h2⟩
  have r1 : (cpM M (tq + 1) 0 (tr + 1) 0 (nI l.length)).2.2.1 tq 2 = nI l.length := by
    show (if tq = tr + 1 then _ else M.2.2.1 tq 2) = _
    rw [if_neg s1, hR.1]
  have r2 : (cpM (cpM M (tq + 1) 0 (tr + 1) 0 (nI l.length)) (tq + 2) 0 (tr + 2) 0 (nI l.length)).2.2.1 tq 2 = nI l.length := by
    show (if tq = tr + 2 then _ else _) = _
    rw [if_neg s2]
    exact r1
  have z0 : (0 : Int32).toNatClampNeg = 0 := rfl
  refine ⟨wI (wI (cpM (cpM M (tq + 1) 0 (tr + 1) 0 (nI l.length)) (tq + 2) 0 (tr + 2) 0 (nI l.length)) tr 2 (nI l.length)) tr 3 0, ?_, ?_, ?_, by simp [up2_if]⟩
  · unfold f_X9_takeOver b_X9_takeOver
    have w1 : (cpM M (tq + 1) 0 (tr + 1) 0 (nI l.length)).1 = 126 := hW.1
    have w2 : (cpM (cpM M (tq + 1) 0 (tr + 1) 0 (nI l.length)) (tq + 2) 0 (tr + 2) 0 (nI l.length)).1 = 126 := hW.1
    have x1 : (cpM M (tq + 1) 0 (tr + 1) 0 (nI l.length)).2.1 tq = .inr 9 := q1
    have x2 : (cpM M (tq + 1) 0 (tr + 1) 0 (nI l.length)).2.1 tr = .inr 9 := t1
    have x3 : (cpM (cpM M (tq + 1) 0 (tr + 1) 0 (nI l.length)) (tq + 2) 0 (tr + 2) 0 (nI l.length)).2.1 tq = .inr 9 := q1
    have x4 : (cpM (cpM M (tq + 1) 0 (tr + 1) 0 (nI l.length)) (tq + 2) 0 (tr + 2) 0 (nI l.length)).2.1 tr = .inr 9 := t1
    have x5 : (cpM M (tq + 1) 0 (tr + 1) 0 (nI l.length)).2.2.2.2 tq 1 = some (tq + 2) := q3
    have x6 : (cpM M (tq + 1) 0 (tr + 1) 0 (nI l.length)).2.2.2.2 tr 1 = some (tr + 2) := t3
    simp (disch := omega) only [T_X9_takeOver_0, gd_true, fO, bnd_s, hW.1, t1, t2, q1, q2, t6, q6, and_self, hR.1, nI_lt0, if_false, show (200 : Int32) = nI 200 from rfl, nI_lt_, w1, w2, x1, x2, x3, x4, x5, x6, r1, r2]
    rw [if_neg (by omega), gd_pos c1, gd_pos c2]
  · refine ⟨rfl, rfl, rfl, fun a k ha => ⟨?_, rfl⟩⟩
    have a1 : a ≠ tr + 1 := fun q => ha (Or.inr (Or.inl q))
    have a2 : a ≠ tr + 2 := fun q => ha (Or.inr (Or.inr q))
    have a3 : ¬ (a = tr ∧ k = 2) := fun q => ha (Or.inl ⟨q.1, Or.inl q.2⟩)
    have a4 : ¬ (a = tr ∧ k = 3) := fun q => ha (Or.inl ⟨q.1, Or.inr q.2⟩)
    simp only [up2_if, a3, a4, if_false]
    show (if a = tr + 2 then _ else if a = tr + 1 then _ else M.2.2.1 a k) = _
    rw [if_neg a2, if_neg a1]
  · refine ⟨by simp [up2_if], h2, hR.2.2.1, fun i nd hi => ?_⟩
    have hil := (opl_of hi).2.2
    obtain ⟨a1, a2⟩ := hR.2.2.2 i nd hi
    have hlow : ∀ a, a < 6 → (wI (wI (cpM (cpM M (tq + 1) 0 (tr + 1) 0 (nI l.length)) (tq + 2) 0 (tr + 2) 0 (nI l.length)) tr 2 (nI l.length)) tr 3 0).2.2.1 a = M.2.2.1 a := fun a ha => by
      have : 25 ≤ tr := by unfold TOb at hT; omega
      funext j
      simp only [up2_if, show a ≠ tr by omega, false_and, if_false]
      show (if a = tr + 2 then _ else if a = tr + 1 then _ else M.2.2.1 a j) = _
      rw [if_neg (by omega), if_neg (by omega)]
    have hd : ∀ j, j < c → dC (wI (wI (cpM (cpM M (tq + 1) 0 (tr + 1) 0 (nI l.length)) (tq + 2) 0 (tr + 2) 0 (nI l.length)) tr 2 (nI l.length)) tr 3 0) j = dC M j := fun j _ => by
      unfold dC
      rw [hlow 3 (by omega), hlow 4 (by omega), hlow 5 (by omega)]
    have e1 : (wI (wI (cpM (cpM M (tq + 1) 0 (tr + 1) 0 (nI l.length)) (tq + 2) 0 (tr + 2) 0 (nI l.length)) tr 2 (nI l.length)) tr 3 0).2.2.1 (tr + 1) i = M.2.2.1 (tq + 1) i := by
      simp only [up2_if, show tr + 1 ≠ tr by omega, false_and, if_false]
      show (if tr + 1 = tr + 2 then _ else if tr + 1 = tr + 1 then va_cpy (M.2.2.1 (tq + 1)) (M.2.2.1 (tr + 1)) (0 : Int32).toNatClampNeg (0 : Int32).toNatClampNeg (nI l.length).toNatClampNeg i else M.2.2.1 (tr + 1) i) = _
      rw [if_neg (by omega), if_pos rfl, nI_z (by omega), z0]
      unfold va_cpy
      rw [if_pos ⟨by omega, by omega⟩, Nat.sub_zero, Nat.zero_add]
    have e2 : (wI (wI (cpM (cpM M (tq + 1) 0 (tr + 1) 0 (nI l.length)) (tq + 2) 0 (tr + 2) 0 (nI l.length)) tr 2 (nI l.length)) tr 3 0).2.2.1 (tr + 2) i = M.2.2.1 (tq + 2) i := by
      simp only [up2_if, show tr + 2 ≠ tr by omega, false_and, if_false]
      show (if tr + 2 = tr + 2 then va_cpy (fun j => if tq + 2 = tr + 1 then va_cpy (M.2.2.1 (tq + 1)) (M.2.2.1 (tr + 1)) (0 : Int32).toNatClampNeg (0 : Int32).toNatClampNeg (nI l.length).toNatClampNeg j else M.2.2.1 (tq + 2) j) _ (0 : Int32).toNatClampNeg (0 : Int32).toNatClampNeg (nI l.length).toNatClampNeg i else _) = _
      rw [if_pos rfl, nI_z (by omega), z0]
      unfold va_cpy
      rw [if_pos ⟨by omega, by omega⟩, Nat.sub_zero]
      show (if tq + 2 = tr + 1 then _ else M.2.2.1 (tq + 2) (0 + i)) = _
      rw [if_neg s3, Nat.zero_add]
    rw [e1, e2]
    exact ⟨a1, a2.mv hd (Nat.le_refl _)⟩
end TAD
