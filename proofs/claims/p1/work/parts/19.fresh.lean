/-! A FRESH PAIR OF OBJECTS -/
section FR
variable {n : Nat} {L : List (Nat × Nat × Nat)} {f : Nat → Nat → Int32} {g : Nat → Nat → Int64} {M : Mem}
theorem cw_j (h : Cw n L f g M) {a k : Nat} (ha : a < n) : M.2.2.2.1 a k = g a k := h.2.2.2.2.1 a k ha
theorem cw_gj (h : Cw n L f g M) {a k ci : Nat} {x : Int64} (hk : fK ci k = 1) (ha : a < n) (hx : g a k = x) : gv M ci a k = .long x := by
  unfold gv
  rw [hk]
  show Value.long (M.2.2.2.1 a k) = _
  rw [cw_j h ha, hx]
end FR
/-- the reference's cells are as they were made -/
def Fm (M : Mem) : Prop := ∃ f g, Cw 126 Lj134 f g M ∧ ∀ a k, 89 ≤ a → f a k = fs42 a k
theorem fm_of {f : Nat → Nat → Int32} {g : Nat → Nat → Int64} {M : Mem} (h : Cw 126 Lj134 f g M) (hf : ∀ a k, 89 ≤ a → f a k = fs42 a k) : Fm M := ⟨f, g, h, hf⟩
theorem nslot {x : Int32} (h : ¬ (x < 0 ∨ 4 ≤ x)) : x = 0 ∨ x = 1 ∨ x = 2 ∨ x = 3 := by
  have h1 : ¬ x < 0 := fun q => h (Or.inl q)
  have h2 : ¬ (4 : Int32) ≤ x := fun q => h (Or.inr q)
  have a2 := Int32.lt_iff_toInt_lt.mp (Int32.not_le.mp h2)
  have e4 : (4 : Int32).toInt = 4 := rfl
  have e3 : (3 : Int32).toInt = 3 := rfl
  obtain ⟨j, hj, rfl⟩ := nI_of2 (M := 3) (n := 3) rfl h1 (Int32.le_iff_toInt_le.mpr (by omega))
  match j, hj with
  | 0, _ => exact Or.inl rfl
  | 1, _ => exact Or.inr (Or.inl rfl)
  | 2, _ => exact Or.inr (Or.inr (Or.inl rfl))
  | 3, _ => exact Or.inr (Or.inr (Or.inr rfl))
theorem not_neg {x : Int32} (h : 0 < x) : ¬ x < 0 := by
  intro q
  have a1 := Int32.lt_iff_toInt_lt.mp h
  have a2 := Int32.lt_iff_toInt_lt.mp q
  omega
