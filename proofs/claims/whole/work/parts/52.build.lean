/-! THE CLASS's buildFormula -/
theorem nI_m1 (n : Nat) : nI (n + 1) + (-1) = nI n := by
  rw [← nI_1, Int32.add_assoc, show (1 : Int32) + (-1) = 0 by decide, Int32.add_zero]
def pm (n : Nat) : Int32 := match n with
  | 0 => -1
  | k + 1 => nI k
theorem pm_dec (n : Nat) : nI n + (-1) = pm n := by
  cases n with
  | zero => decide
  | succ n => exact nI_m1 n
theorem pm_sub (n : Nat) : nI n - 1 = pm n := by
  cases n with
  | zero => decide
  | succ n => exact nI_pred n
theorem chk_suf : ∀ {p s : List Nat} {a : Nat}, chk (p ++ s) a → ∃ o, chk s o := by
  intro p
  induction p with
  | nil => intro s a h; exact ⟨a, h⟩
  | cons c p ih =>
    intro s a h
    cases a with
    | zero => exact h.elim
    | succ a => exact ih h.2
theorem ev_len : ∀ {l : List Nat} {o : Nat}, chk l o → o ≤ l.length := by
  intro l
  induction l with
  | nil => intro o h; exact Nat.le_of_eq h
  | cons c l ih =>
    intro o h
    cases o with
    | zero => exact h.elim
    | succ o =>
      have := ih h.2
      have h2 : o ≤ opn o c := by unfold opn; split <;> (try split) <;> omega
      simp only [List.length_cons]
      omega
section BF
variable {M : Mem}
theorem c_at20 (hW : Wd M) (k : Nat) {i : Nat} (hi : i < 30) : f_X10_at k 20 (nI i) M = some (M.2.2.1 20 i, M) := by
  unfold f_X10_at b_X10_at
  have e : aLen M 20 = some 30 := by simp [aLen, W_14 hW]
  simp (disch := omega) only [T_X10_at_0, nI_lt0, if_false, e, bnd_s, show Int32.ofNat 30 = nI 30 from rfl, nI_le_, fA, W_14 hW, ex_in, Nat.reduceLT, true_and, nI_z, vp_iff]
  rw [if_neg (by omega), gd_pos hi]
def SBF (a k : Nat) : Prop := SF a k ∨ a = 20
/-- the pile of what is ready, at the end of the row -/
def Stk (M : Mem) (c W s : Nat) (fs : List Fm) : Prop := fs.length = s ∧ s ≤ W ∧ ∀ j, j < s → ∃ v, v < c ∧ M.2.2.1 20 (W - s + j) = nI v ∧ some (dC M v) = fs[j]?
theorem Stk.get {c W s : Nat} {fs : List Fm} (h : Stk M c W s fs) {j : Nat} (hj : j < s) : ∃ v, v < c ∧ M.2.2.1 20 (W - s + j) = nI v ∧ some (dC M v) = fs[j]? := h.2.2 j hj
theorem Stk.cons {c W s : Nat} {fs : List Fm} (h : Stk M c W s fs) (hs : s + 1 ≤ W) {v : Nat} (hv : v < c) : Stk (wI M 20 (W - (s + 1)) (nI v)) c W (s + 1) (dC M v :: fs) := by
  refine ⟨by simp only [List.length_cons]; rw [h.1], hs, fun j hj => ?_⟩
  cases j with
  | zero => exact ⟨v, hv, by simp [up2_if], rfl⟩
  | succ j =>
    obtain ⟨u, h1, h2, h3⟩ := h.get (j := j) (by omega)
    refine ⟨u, h1, ?_, h3⟩
    have : ¬ (W - (s + 1) + (j + 1) = W - (s + 1)) := by omega
    simp only [up2_if, true_and, this, if_false]
    rw [show W - (s + 1) + (j + 1) = W - s + j by omega]
    exact h2
theorem Stk.tail {c W s : Nat} {f : Fm} {fs : List Fm} (h : Stk M c W (s + 1) (f :: fs)) : Stk M c W s fs := by
  refine ⟨by have := h.1; simp only [List.length_cons] at this; omega, by have := h.2.1; omega, fun j hj => ?_⟩
  obtain ⟨u, h1, h2, h3⟩ := h.get (j := j + 1) (by omega)
  refine ⟨u, h1, ?_, h3⟩
  have hsW := h.2.1
  rw [show W - s + j = W - (s + 1) + (j + 1) by omega]
  exact h2
theorem Stk.fr {c c1 W s : Nat} {fs : List Fm} {M1 : Mem} (h : Stk M c W s fs) (hc : c ≤ c1) (hd : ∀ i, i < c → dC M1 i = dC M i) (h20 : ∀ j, M1.2.2.1 20 j = M.2.2.1 20 j) : Stk M1 c1 W s fs := by
  refine ⟨h.1, h.2.1, fun j hj => ?_⟩
  obtain ⟨u, h1, h2, h3⟩ := h.get hj
  exact ⟨u, by omega, by rw [h20]; exact h2, by rw [hd u h1]; exact h3⟩
theorem TabC.wI20 {c : Nat} (h : TabC M c) (j : Nat) (x : Int32) : TabC (wI M 20 j x) c := h
set_option maxHeartbeats 4000000 in
/-- what one word does: its formula goes onto the pile -/
theorem build_step (hW : Wd M) {c W : Nat} (hT : TabC M c) (k : Nat) {i cd o : Nat} {suf : List Nat} (hch : chk (cd :: suf) o) (hW30 : W ≤ 30) (hlen : i + 1 + suf.length = W) (hc : c < 5200) (hcode : M.2.2.1 20 i = nI cd) {s : Nat} (hS : Stk M c W s (ev suf)) (mv : Int32) :
    ∃ f c1 M1 s1, lp (st_X6_buildFormula (k + 2)) (9, [.ref 14, .int mv, .int (nI (W - s)), .int (nI i)], M) = lp (st_X6_buildFormula (k + 2)) (9, [.ref 14, .int (nI f), .int (nI (W - s1)), .int (pm i)], M1) ∧ f < c1 ∧ c ≤ c1 ∧ c1 ≤ c + 1 ∧ TabC M1 c1 ∧ (∀ i, i < c → dC M1 i = dC M i) ∧ Fr SBF M M1 ∧ Stk M1 c1 W s1 (ev (cd :: suf)) ∧ (∀ j, j < i → M1.2.2.1 20 j = M.2.2.1 20 j) ∧ some (dC M1 f) = (ev (cd :: suf))[0]? := by
  have hi30 : i < 30 := by omega
  cases o with
  | zero => exact hch.elim
  | succ o =>
  obtain ⟨hcd, hl⟩ := hch
  obtain ⟨e1, -⟩ := ev_app hl
  have hsl := ev_len hl
  have hs : s = opn o cd := by rw [← e1]; exact hS.1.symm
  -- the end: the new one is laid on the pile
  have fin : ∀ (f c1 : Nat) (M1 : Mem) (s1 : Nat) (rest : List Fm), Wd M1 → f < c1 → Stk M1 c1 W s1 rest → s1 + 1 ≤ W → i ≤ W - (s1 + 1) → lp (st_X6_buildFormula (k + 2)) (100, [.ref 14, .int (nI f), .int (nI (W - (s1 + 1))), .int (nI i)], M1) = lp (st_X6_buildFormula (k + 2)) (9, [.ref 14, .int (nI f), .int (nI (W - (s1 + 1))), .int (pm i)], wI M1 20 (W - (s1 + 1)) (nI f)) := by
    intro f c1 M1 s1 rest hW1 hf hS1 hs1 hi1
    refine (ge_X6_buildFormula_100 (k + 2) 14 _ _ _ M1).trans ?_
    simp (disch := omega) only [T_X6_buildFormula_100, W_14 hW1, gd_true, fO, fA, ex_in, bnd_s, bnd2_s, cal_s, Nat.reduceLT, true_and, and_true, and_self, nI_z, vp_iff, up2_if, Nat.reduceEqDiff, false_and, and_false, if_false, if_true, nI_1, nI_le_, nI_lt_, nI_lt0, nI_eq_, nI_add, show (30 : Int32) = nI 30 from rfl, pm_dec]
    rw [if_neg (by omega), gd_pos (by omega)]
  have head : lp (st_X6_buildFormula (k + 2)) (9, [.ref 14, .int mv, .int (nI (W - s)), .int (nI i)], M) = T_X6_buildFormula_9 (fun c l M => lp (st_X6_buildFormula (k + 2)) (c, l, M)) (fun v M => some (v, M)) none (k + 2) 14 mv (nI (W - s)) (nI i) M := ge_X6_buildFormula_9 (k + 2) 14 _ _ _ M
  by_cases h12 : cd = 12
  · subst h12
    have hs1 : s = o + 1 := hs
    subst hs1
    obtain ⟨x, t, e⟩ : ∃ x t, ev suf = x :: t := by
      cases hh : ev suf with
      | nil => rw [hh] at e1; have e1 : 0 = o + 1 := e1; omega
      | cons x t => exact ⟨x, t, rfl⟩
    rw [e] at hS
    obtain ⟨v, hv, hv2, hv3⟩ := hS.get (j := 0) (by omega)
    rw [Nat.add_zero] at hv2
    have hv3 : dC M v = x := Option.some.inj hv3
    have e20 := c_at20 hW (k + 1) (i := W - (o + 1)) (by omega)
    rw [hv2] at e20
    obtain ⟨f, c1, M1, m1, m2, m3, m4, m5, m6, m7, m8, -⟩ := c_make hW hT k (j := 9) (a := v) (b := 8) (by omega) (by omega) hv (by have := hT.2.1; omega) (Or.inl hc)
    have hW1 := m8.Wd hW
    have hS1 : Stk M1 c1 W o t := (hS.fr m3 m7 (fun j => m8.int (by simp [SF]))).tail
    refine ⟨f, c1, wI M1 20 (W - (o + 1)) (nI f), o + 1, ?_, m2, m3, m4, m5, m7, (m8.mono (T := SBF) (fun a k h => Or.inl h)).wI (Or.inr rfl) _, ?_, fun j hj => ?_, ?_⟩
    · rw [head, ← fin f c1 M1 o t hW1 m2 hS1 (by omega) (by omega)]
      simp (disch := omega) only [T_X6_buildFormula_9, W_14 hW, W_2 hW, gd_true, fO, fA, ex_in, bnd_s, bnd2_s, cal_s, Nat.reduceLT, true_and, and_true, and_self, nI_z, vp_iff, up2_if, Nat.reduceEqDiff, false_and, and_false, if_false, if_true, nI_1, nI_le_, nI_lt_, nI_lt0, nI_eq_, nI_add, show (30 : Int32) = nI 30 from rfl, hcode, show (12 : Int32) = nI 12 from rfl, show (9 : Int32) = nI 9 from rfl, show (8 : Int32) = nI 8 from rfl, e20, m1]
      rw [if_neg (by omega), gd_pos (by omega)]
    · rw [ev_12, e]
      have := hS1.cons (by omega) m2
      rw [m6, hv3, hT.leaf (i := 8) (by omega)] at this
      exact this
    · have : ¬ (j = W - (o + 1)) := by omega
      simp only [up2_if, true_and, this, if_false]
      exact m8.int (by simp [SF])
    · rw [ev_12, e]
      show some (dC M1 f) = some (Term.add x (.arg 8))
      rw [m6, hv3, hT.leaf (i := 8) (by omega)]
      rfl
  · by_cases h9 : 9 ≤ cd
    · have hs1 : s = o + 2 := by rw [hs]; unfold opn; rw [if_neg h12, if_pos h9]
      subst hs1
      obtain ⟨x, y, t, e⟩ : ∃ x y t, ev suf = x :: y :: t := by
        have hlen2 := hS.1
        cases hh : ev suf with
        | nil => rw [hh] at hlen2; simp at hlen2
        | cons x t =>
          cases t with
          | nil => rw [hh] at hlen2; simp at hlen2
          | cons y t => exact ⟨x, y, t, rfl⟩
      rw [e] at hS
      obtain ⟨v, hv, hv2, hv3⟩ := hS.get (j := 0) (by omega)
      obtain ⟨u, hu, hu2, hu3⟩ := hS.get (j := 1) (by omega)
      rw [Nat.add_zero] at hv2
      have hv3 : dC M v = x := Option.some.inj hv3
      have hu3 : dC M u = y := Option.some.inj hu3
      have e20 := c_at20 hW (k + 1) (i := W - (o + 2)) (by omega)
      rw [hv2] at e20
      have e21 := c_at20 hW (k + 1) (i := W - (o + 2) + 1) (by omega)
      rw [hu2] at e21
      obtain ⟨f, c1, M1, m1, m2, m3, m4, m5, m6, m7, m8, -⟩ := c_make hW hT k (j := cd) (a := v) (b := u) (by omega) (by omega) hv hu (Or.inl hc)
      have hW1 := m8.Wd hW
      have hS1 : Stk M1 c1 W o t := (hS.fr m3 m7 (fun j => m8.int (by simp [SF]))).tail.tail
      refine ⟨f, c1, wI M1 20 (W - (o + 1)) (nI f), o + 1, ?_, m2, m3, m4, m5, m7, (m8.mono (T := SBF) (fun a k h => Or.inl h)).wI (Or.inr rfl) _, ?_, fun j hj => ?_, ?_⟩
      · rw [head, ← fin f c1 M1 o t hW1 m2 hS1 (by omega) (by omega)]
        simp (disch := omega) only [T_X6_buildFormula_9, W_14 hW, W_2 hW, gd_true, fO, fA, ex_in, bnd_s, bnd2_s, cal_s, Nat.reduceLT, true_and, and_true, and_self, nI_z, vp_iff, up2_if, Nat.reduceEqDiff, false_and, and_false, if_false, if_true, nI_1, nI_le_, nI_lt_, nI_lt0, nI_eq_, nI_add, show (30 : Int32) = nI 30 from rfl, hcode, show (12 : Int32) = nI 12 from rfl, show (9 : Int32) = nI 9 from rfl, e20, e21, m1]
        rw [if_neg (by omega), gd_pos (by omega), if_neg h12, if_neg (by omega), show W - (o + 2) + 1 = W - (o + 1) by omega]
      · rw [ev_bin suf h9 h12, e]
        have := hS1.cons (by omega) m2
        rw [m6, hv3, hu3] at this
        exact this
      · have : ¬ (j = W - (o + 1)) := by omega
        simp only [up2_if, true_and, this, if_false]
        exact m8.int (by simp [SF])
      · rw [ev_bin suf h9 h12, e]
        show some (dC M1 f) = some (mkF cd x y)
        rw [m6, hv3, hu3]
    · have hs1 : s = o := by rw [hs]; unfold opn; rw [if_neg h12, if_neg h9]
      subst hs1
      refine ⟨cd, c, wI M 20 (W - (s + 1)) (nI cd), s + 1, ?_, by have := hT.2.1; omega, by omega, by omega, hT, fun _ _ => rfl, Fr.refl.wI (Or.inr rfl) _, ?_, fun j hj => ?_, ?_⟩
      · rw [head, ← fin cd c M s (ev suf) hW (by have := hT.2.1; omega) hS (by omega) (by omega)]
        have em : nI (W - s) + (-1) = nI (W - (s + 1)) := by
          rw [show W - s = (W - (s + 1)) + 1 by omega, nI_m1]
        simp (disch := omega) only [T_X6_buildFormula_9, W_14 hW, gd_true, fO, fA, ex_in, bnd_s, bnd2_s, cal_s, Nat.reduceLT, true_and, and_true, and_self, nI_z, vp_iff, up2_if, Nat.reduceEqDiff, false_and, and_false, if_false, if_true, nI_1, nI_le_, nI_lt_, nI_lt0, nI_eq_, nI_add, show (30 : Int32) = nI 30 from rfl, hcode, show (12 : Int32) = nI 12 from rfl, show (9 : Int32) = nI 9 from rfl, em]
        rw [if_neg (by omega), gd_pos (by omega), if_neg h12, if_pos (by omega)]
      · rw [ev_leaf suf (by omega)]
        have := hS.cons (by omega) (v := cd) (by have := hT.2.1; omega)
        rw [hT.leaf (by omega)] at this
        exact this
      · have : ¬ (j = W - (s + 1)) := by omega
        simp only [up2_if, true_and, this, if_false]
      · rw [ev_leaf suf (by omega)]
        show some (dC M cd) = some (.arg cd)
        rw [hT.leaf (by omega)]
set_option maxHeartbeats 2000000 in
theorem build_loop (k : Nat) {W : Nat} (hW30 : W ≤ 30) : ∀ (i : Nat) (pre suf : List Nat), pre.length = i → i + suf.length = W → chk (pre ++ suf) 1 → ∀ (M : Mem) (c s : Nat) (mv : Int32), Wd M → TabC M c → c + i ≤ 5200 → (∀ j, j < i → some (M.2.2.1 20 j) = (pre[j]?).map nI) → Stk M c W s (ev suf) → (i = 0 → ∃ f, mv = nI f ∧ f < c ∧ some (dC M f) = (ev suf)[0]?) →
    ∃ f c1 M1, lp (st_X6_buildFormula (k + 2)) (9, [.ref 14, .int mv, .int (nI (W - s)), .int (pm i)], M) = some (nI f, M1) ∧ f < c1 ∧ c ≤ c1 ∧ c1 ≤ c + i ∧ TabC M1 c1 ∧ (∀ i, i < c → dC M1 i = dC M i) ∧ Fr SBF M M1 ∧ some (dC M1 f) = (ev (pre ++ suf))[0]? := by
  intro i
  induction i with
  | zero =>
    intro pre suf hp hl hch M c s mv hWd hT hc hcd hS hmv
    obtain ⟨f, e, hf, hd⟩ := hmv rfl
    have hpn : pre = [] := List.eq_nil_of_length_eq_zero hp
    subst hpn
    refine ⟨f, c, M, ?_, hf, Nat.le_refl _, by omega, hT, fun _ _ => rfl, Fr.refl, hd⟩
    refine (ge_X6_buildFormula_9 (k + 2) 14 _ _ _ M).trans ?_
    simp only [T_X6_buildFormula_9, pm, m1_lt0, if_true, e]
  | succ i ih =>
    intro pre suf hp hl hch M c s mv hWd hT hc hcd hS hmv
    obtain ⟨pre', cd, rfl⟩ : ∃ p' x, pre = p' ++ [x] := by
      rcases List.eq_nil_or_concat pre with h | ⟨p', x, h⟩
      · subst h; simp at hp
      · exact ⟨p', x, by rw [h, List.concat_eq_append]⟩
    have hp' : pre'.length = i := by simp at hp; omega
    have hch2 : chk (pre' ++ (cd :: suf)) 1 := by
      have : pre' ++ [cd] ++ suf = pre' ++ (cd :: suf) := by simp
      rw [this] at hch
      exact hch
    obtain ⟨o, ho⟩ := chk_suf hch2
    have hcode : M.2.2.1 20 i = nI cd := by
      have := hcd i (by omega)
      rw [List.getElem?_append_right (by omega), hp', Nat.sub_self] at this
      exact Option.some.inj this
    obtain ⟨f, c1, M1, s1, b1, b2, b3, b4, b5, b6, b7, b8, b9, b10⟩ := build_step hWd hT k (W := W) (i := i) ho hW30 (by omega) (by omega) hcode hS mv
    obtain ⟨f2, c2, M2, d1, d2, d3, d4, d5, d6, d7, d8⟩ := ih pre' (cd :: suf) hp' (by simp only [List.length_cons]; omega) hch2 M1 c1 s1 (nI f) (b7.Wd hWd) b5 (by omega) (fun j hj => by
      rw [b9 j hj, hcd j (by omega), List.getElem?_append_left (by omega)]) b8 (fun _ => ⟨f, rfl, b2, b10⟩)
    refine ⟨f2, c2, M2, b1.trans d1, d2, by omega, by omega, d5, fun j hj => (d6 j (by omega)).trans (b6 j hj), b7.trans d7, ?_⟩
    rw [d8]
    simp
/-- BUILD FORMULA: the words of a row that is one formula -/
theorem c_build (k : Nat) (hW : Wd M) {c : Nat} (hT : TabC M c) {l : List Nat} (hl : l.length ≤ 30) (hch : chk l 1) (hc : c + l.length ≤ 5200) (hcd : ∀ j, j < l.length → some (M.2.2.1 20 j) = (l[j]?).map nI) : ∃ f c1 M1, f_X6_buildFormula (k + 2) 14 (nI l.length) M = some (nI f, M1) ∧ f < c1 ∧ c ≤ c1 ∧ c1 ≤ c + l.length ∧ TabC M1 c1 ∧ (∀ i, i < c → dC M1 i = dC M i) ∧ Fr SBF M M1 ∧ some (dC M1 f) = (ev l)[0]? := by
  have hne : l.length ≠ 0 := by
    intro q
    have : l = [] := List.eq_nil_of_length_eq_zero q
    subst this
    exact absurd hch (by unfold chk; omega)
  obtain ⟨f, c1, M1, h⟩ := build_loop k hl l.length l [] rfl (by simp) (by rw [List.append_nil]; exact hch) M c 0 (-1) hW hT hc hcd ⟨rfl, Nat.zero_le _, fun j hj => by omega⟩ (fun q => (hne q).elim)
  rw [List.append_nil] at h
  refine ⟨f, c1, M1, ?_, h.2⟩
  refine Eq.trans ?_ h.1
  refine (ge_X6_buildFormula_0 (k + 2) 14 _ M).trans ?_
  simp only [T_X6_buildFormula_0, pm_sub, Nat.sub_zero]
end BF
