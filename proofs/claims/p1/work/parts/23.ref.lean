/-! THE REFERENCE ON FRESH OBJECTS: its own cells alone are known -/
def Cm (f : Nat → Nat → Int32) (M : Mem) : Prop := M.1 = 126 ∧ (∀ a, a < 126 → M.2.1 a = S0 a) ∧ (∀ q ∈ Lj134, M.2.2.2.2 q.1 q.2.1 = some q.2.2) ∧ ∀ a k, 89 ≤ a ∧ a < 126 → M.2.2.1 a k = f a k
theorem cm_of {M : Mem} (h : Fm M) : Cm fs42 M := by
  obtain ⟨f, g, ⟨h1, h2, h3, h4, -⟩, hf⟩ := h
  exact ⟨h1, h2, fun q hq => (h3 q hq).2, fun a k ha => (h4 a k ha.2).trans (hf a k ha.1)⟩
section CM
variable {f : Nat → Nat → Int32} {M : Mem}
theorem cm_l (h : Cm f M) {a : Nat} (ha : a < 126) : a < M.1 := by rw [h.1]; exact ha
theorem cm_s (h : Cm f M) {a : Nat} (ha : a < 126) {s : (Nat × Nat) ⊕ Nat} (hs : S0 a = s) : M.2.1 a = s := (h.2.1 a ha).trans hs
theorem cm_r (h : Cm f M) {a k t : Nat} (hq : (a, k, t) ∈ Lj134) : M.2.2.2.2 a k = some t := h.2.2.1 _ hq
theorem cm_g (h : Cm f M) {a k t ci : Nat} (hk : fK ci k = 2) (hq : (a, k, t) ∈ Lj134) : gv M ci a k = .ref t := by
  unfold gv
  rw [hk]
  show va_rf (M.2.2.2.2 a k) = _
  rw [cm_r h hq]
  rfl
theorem cm_i (h : Cm f M) {a k : Nat} (ha : 89 ≤ a ∧ a < 126) : M.2.2.1 a k = f a k := h.2.2.2 a k ha
theorem cm_gi (h : Cm f M) {a k ci : Nat} {x : Int32} (hk : fK ci k = 0) (ha : 89 ≤ a ∧ a < 126) (hx : f a k = x) : gv M ci a k = .int x := by
  unfold gv
  rw [hk]
  show Value.int (M.2.2.1 a k) = _
  rw [cm_i h ha, hx]
theorem cm_I {a k : Nat} {x : Int32} (h : Cm f M) (ha : 89 ≤ a ∧ a < 126) : Cm (up2 f a k x) (wI M a k x) := by
  obtain ⟨h1, h2, h3, h4⟩ := h
  refine ⟨h1, h2, h3, fun b j hb => ?_⟩
  show up2 M.2.2.1 a k x b j = up2 f a k x b j
  unfold up2
  by_cases e : b = a ∧ j = k
  · rw [if_pos e, if_pos e]
  · rw [if_neg e, if_neg e, h4 b j hb]
end CM
def isE (v lo hi : Int64) : Int32 := if lg_cmp v lo < 0 then 0 else if 0 < lg_cmp v hi then 0 else 1
theorem isin_w (x hi : Int32) : isE x.toInt64 0 hi.toInt64 = if x < 0 then 0 else if x ≤ hi then 1 else 0 := by
  unfold isE
  have h1 : (lg_cmp x.toInt64 0 < 0) ↔ x < 0 := lgl x 0
  have h2 : (0 < lg_cmp x.toInt64 hi.toInt64) ↔ hi < x := by rw [lg_cmp_gt, tl_lt]
  by_cases q1 : x < 0
  · rw [if_pos (h1.mpr q1), if_pos q1]
  · rw [if_neg (fun q => q1 (h1.mp q)), if_neg q1]
    by_cases q2 : x ≤ hi
    · rw [if_neg (fun q => Int32.not_le.mpr (h2.mp q) q2), if_pos q2]
    · rw [if_pos (h2.mpr (Int32.not_le.mp q2)), if_neg q2]
theorem le3 (x : Int32) : x ≤ 3 ↔ ¬ 4 ≤ x := by
  rw [Int32.not_le, Int32.le_iff_toInt_le, Int32.lt_iff_toInt_lt]
  have e4 : (4 : Int32).toInt = 4 := rfl
  have e3 : (3 : Int32).toInt = 3 := rfl
  omega
theorem isin_s (x : Int32) : isE x.toInt64 0 3 = if x < 0 ∨ 4 ≤ x then 0 else 1 := by
  have h := isin_w x 3
  rw [show (3 : Int32).toInt64 = 3 from by decide +kernel] at h
  rw [h]
  by_cases q1 : x < 0
  · rw [if_pos q1, if_pos (Or.inl q1)]
  · rw [if_neg q1]
    by_cases q2 : (4 : Int32) ≤ x
    · rw [if_neg (fun q => (le3 x).mp q q2), if_pos (Or.inr q2)]
    · rw [if_pos ((le3 x).mpr q2), if_neg (fun q => q.elim q1 q2)]
theorem isin_m (x : Int32) : isE x.toInt64 0 (-1) = 0 := by
  have h := isin_w x (-1)
  rw [show (-1 : Int32).toInt64 = -1 from by decide +kernel] at h
  rw [h]
  by_cases q1 : x < 0
  · rw [if_pos q1]
  · rw [if_neg q1, if_neg (fun q => q1 (by
      apply Int32.lt_iff_toInt_lt.mpr
      have := Int32.le_iff_toInt_le.mp q
      have e1 : (-1 : Int32).toInt = -1 := rfl
      have e0 : (0 : Int32).toInt = 0 := rfl
      omega))]
theorem isin_n {n : Int32} (hn : n < 0) : isE n.toInt64 0 0 = 0 := (isin_w n 0).trans (if_pos hn)
theorem isin_p {n : Int32} (hn : 0 < n) : isE n.toInt64 0 0 = 0 := (isin_w n 0).trans ((if_neg (not_neg hn)).trans (if_neg (Int32.not_le.mpr hn)))
