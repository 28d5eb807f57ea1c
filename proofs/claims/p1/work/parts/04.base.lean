/-! THE ABSTRACT MACHINE: cells by small numbers; all that is made lies from h0 on, in the order of its making -/
abbrev Sh : Type := Nat → (Nat × Nat) ⊕ Nat
abbrev Mem : Type := Nat × Sh × (Nat → Nat → Int32) × (Nat → Nat → Int64) × (Nat → Nat → Option Nat)
def ftk : FieldType → Nat
  | .long => 1
  | .object _ => 2
  | .array _ => 2
  | _ => 0
def fK (ci k : Nat) : Nat := ftk (cTy ci k)
def rA (h0 : Nat) (sp : Nat → Nat) (a : Nat) : Nat := if a < 1000000 then h0 + a else sp (a - 1000000)
def mv (h0 : Nat) (sp : Nat → Nat) : Value → Value
  | .ref a => .ref (rA h0 sp a)
  | v => v
def mvl (h0 : Nat) (sp : Nat → Nat) (q : Nat × Value) : Nat × Value := (q.1, mv h0 sp q.2)
def mo (h0 : Nat) (sp : Nat → Nat) (r : Option Nat) : Option Nat := r.map (rA h0 sp)
def fv (h0 : Nat) (sp : Nat → Nat) (M : Mem) (ci a k : Nat) : Value := match fK ci k with
  | 0 => .int (M.2.2.1 a k)
  | 1 => .long (M.2.2.2.1 a k)
  | _ => va_rf (mo h0 sp (M.2.2.2.2 a k))
def ac (h0 : Nat) (sp : Nat → Nat) (M : Mem) (t a n : Nat) : vp_A := (n, if t = 2 then .inr (.inl (M.2.2.2.1 a)) else if t = 4 then .inr (.inr (.inr (.inr (fun j => mo h0 sp (M.2.2.2.2 a j))))) else .inl (M.2.2.1 a))
def cellE (h0 : Nat) (sp : Nat → Nat) (cy : Nat → ClassId) (M : Mem) (a : Nat) : va_E := match M.2.1 a with
  | .inl q => .inl (cy q.1, ac h0 sp M q.1 a q.2)
  | .inr ci => .inr (ci, (List.range (cN ci)).map (fv h0 sp M ci a))
def pic (h0 : Nat) (sp : Nat → Nat) (cy : Nat → ClassId) (M : Mem) : va_W := (List.range M.1).map (fun a => (h0 + a, cellE h0 sp cy M a))
def tyL (cy : Nat → ClassId) : List (ClassId × FieldType) := [(cy 0, .byte), (cy 1, .int), (cy 2, .long), (cy 3, .boolean), (cy 4, .object RX9)]
theorem pic_at {h0 : Nat} {sp : Nat → Nat} {cy : Nat → ClassId} {M : Mem} {a : Nat} (h : a < M.1) : (pic h0 sp cy M)[a]? = some (h0 + a, cellE h0 sp cy M a) := by
  unfold pic
  rw [List.getElem?_map, List.getElem?_range h]
  rfl
theorem pic_some {h0 : Nat} {sp : Nat → Nat} {cy : Nat → ClassId} {M : Mem} {k : Nat} {q : Nat × va_E} (h : (pic h0 sp cy M)[k]? = some q) : k < M.1 ∧ q = (h0 + k, cellE h0 sp cy M k) := by
  have hk : k < M.1 := by
    have := (List.getElem?_eq_some_iff.mp h).1
    simpa [pic] using this
  rw [pic_at hk] at h
  exact ⟨hk, (Option.some.inj h).symm⟩
theorem pic_D {h0 : Nat} {sp : Nat → Nat} {cy : Nat → ClassId} {M : Mem} : va_D (fun q => h0 ≤ q) (pic h0 sp cy M) := by
  refine ⟨fun i j p q hi hj e => ?_, fun k q hk => ?_⟩
  · rw [(pic_some hi).2, (pic_some hj).2] at e
    have e : h0 + i = h0 + j := e
    omega
  · rw [(pic_some hk).2]
    exact Nat.le_add_right _ _
/-- one cell is changed -/
theorem pic_set {h0 : Nat} {sp : Nat → Nat} {cy : Nat → ClassId} {M M' : Mem} {a : Nat} {e : va_E} (ha : a < M.1) (hn : M'.1 = M.1) (he : cellE h0 sp cy M' a = e) (ho : ∀ b, b ≠ a → cellE h0 sp cy M' b = cellE h0 sp cy M b) : (pic h0 sp cy M).set a (h0 + a, e) = pic h0 sp cy M' := by
  apply List.ext_getElem?
  intro k
  rw [List.getElem?_set]
  by_cases hk : a = k
  · subst hk
    have hl : a < (pic h0 sp cy M).length := by simpa [pic] using ha
    rw [if_pos rfl, if_pos hl, pic_at (by rw [hn]; exact ha), he]
  · rw [if_neg hk]
    by_cases hkn : k < M.1
    · rw [pic_at hkn, pic_at (by rw [hn]; exact hkn), ho k (fun q => hk q.symm)]
    · have l1 : (pic h0 sp cy M)[k]? = none := by
        apply List.getElem?_eq_none
        simpa [pic] using Nat.le_of_not_lt hkn
      have l2 : (pic h0 sp cy M')[k]? = none := by
        apply List.getElem?_eq_none
        simpa [pic, hn] using Nat.le_of_not_lt hkn
      rw [l1, l2]
/-- one cell is new -/
theorem pic_push {h0 : Nat} {sp : Nat → Nat} {cy : Nat → ClassId} {M M' : Mem} {e : va_E} (hn : M'.1 = M.1 + 1) (he : cellE h0 sp cy M' M.1 = e) (ho : ∀ b, b < M.1 → cellE h0 sp cy M' b = cellE h0 sp cy M b) : pic h0 sp cy M ++ [(h0 + M.1, e)] = pic h0 sp cy M' := by
  apply List.ext_getElem?
  intro k
  have hl : (pic h0 sp cy M).length = M.1 := by simp [pic]
  by_cases hk : k < M.1
  · rw [List.getElem?_append_left (by rw [hl]; exact hk), pic_at hk, pic_at (by rw [hn]; omega), ho k hk]
  · rw [List.getElem?_append_right (by rw [hl]; omega), hl]
    by_cases h1 : k = M.1
    · subst h1
      rw [pic_at (by rw [hn]; omega), he, Nat.sub_self]
      rfl
    · have l2 : (pic h0 sp cy M')[k]? = none := by
        apply List.getElem?_eq_none
        simp [pic, hn]
        omega
      rw [l2]
      apply List.getElem?_eq_none
      simp
      omega
