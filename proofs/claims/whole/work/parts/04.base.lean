/-! THE ABSTRACT MACHINE: cells by small numbers; all that is made lies from h0 on, in the order of its making -/
abbrev Sh : Type := Nat → (Nat × Nat) ⊕ Nat
abbrev Mem : Type := Nat × Sh × (Nat → Nat → Int32) × (Nat → Nat → Int64) × (Nat → Nat → Option Nat)
def ftk : FieldType → Nat
  | .long => 1
  | .object _ => 2
  | .array _ => 2
  | _ => 0
def fK (ci k : Nat) : Nat := ftk (cTy ci k)
/-- number 86 is no cell: the cells behind it lie one place lower -/
def po (a : Nat) : Nat := if a ≤ 86 then a else a - 1
def un (i : Nat) : Nat := if i < 86 then i else i + 1
theorem po_lt {a n : Nat} (h : a < n) (h8 : a ≠ 86) : po a < po n := by
  unfold po
  split <;> split <;> omega
theorem un_po {a : Nat} (h8 : a ≠ 86) : un (po a) = a := by
  unfold un po
  split <;> split <;> omega
theorem po_un (i : Nat) : po (un i) = i := by
  unfold un po
  split <;> split <;> omega
theorem po_s {n : Nat} (h8 : n ≠ 86) : po (n + 1) = po n + 1 := by
  unfold po
  split <;> split <;> omega
theorem un_lt {k n : Nat} (h : k < po n) : un k < n := by
  unfold po at h
  unfold un
  split at h <;> split <;> omega
def okM (M : Mem) : Prop := M.1 ≤ 1000000 ∧ (86 < M.1 → M.2.1 86 = .inr 99)
theorem ok_o {M : Mem} {a ci : Nat} (h : okM M) (ha : a < M.1) (hs : M.2.1 a = .inr ci) (hci : ci < 12) : a ≠ 86 := by
  intro e
  subst e
  have h2 := hs.symm.trans (h.2 ha)
  have h3 : ci = 99 := Sum.inr.inj h2
  omega
theorem ok_a {M : Mem} {a t n : Nat} (h : okM M) (ha : a < M.1) (hs : M.2.1 a = .inl (t, n)) : a ≠ 86 := by
  intro e
  subst e
  have h2 := hs.symm.trans (h.2 ha)
  cases h2
theorem ok_n {M M' : Mem} (h : okM M) (h1 : M'.1 = M.1) (h2 : M'.2.1 = M.2.1) : okM M' := by
  unfold okM
  rw [h1, h2]
  exact h
theorem ok_new {M : Mem} {s : (Nat × Nat) ⊕ Nat} {f : Nat → Nat → Int32} {g : Nat → Nat → Int64} {r : Nat → Nat → Option Nat} (h : okM M) (h8 : M.1 ≠ 86) (hm : M.1 + 1 ≤ 1000000) : okM (M.1 + 1, va_up M.2.1 M.1 s, f, g, r) := by
  refine ⟨hm, fun q => ?_⟩
  have q : 86 < M.1 + 1 := q
  show va_up M.2.1 M.1 s 86 = _
  have hne : (86 : Nat) ≠ M.1 := fun e => h8 e.symm
  rw [show va_up M.2.1 M.1 s 86 = M.2.1 86 by simp [va_up, hne]]
  exact h.2 (by omega)
def rA (h0 : Nat) (sp : Nat → Nat) (a : Nat) : Nat := if a < 1000000 then h0 + po a else sp (a - 1000000)
def mv (h0 : Nat) (sp : Nat → Nat) : Value → Value
  | .ref a => .ref (rA h0 sp a)
  | v => v
def mvl (h0 : Nat) (sp : Nat → Nat) (q : Nat × Value) : Nat × Value := (q.1, mv h0 sp q.2)
def mo (h0 : Nat) (sp : Nat → Nat) (r : Option Nat) : Option Nat := r.map (rA h0 sp)
def fv (h0 : Nat) (sp : Nat → Nat) (M : Mem) (ci a k : Nat) : Value := match fK ci k with
  | 0 => .int (M.2.2.1 a k)
  | 1 => .long (M.2.2.2.1 a k)
  | _ => va_rf (mo h0 sp (M.2.2.2.2 a k))
def ac (h0 : Nat) (sp : Nat → Nat) (M : Mem) (t a n : Nat) : vp_A := (n, if t = 2 then .inr (.inl (M.2.2.2.1 a)) else if t = 4 then .inr (.inr (.inr (.inr (fun j => mo h0 sp (M.2.2.2.2 a j))))) else .inl (M.2.2.1 a))
def cellE (h0 : Nat) (sp : Nat → Nat) (cy : Nat → ClassId) (M : Mem) (a : Nat) : va_E := match M.2.1 a with
  | .inl q => .inl (cy q.1, ac h0 sp M q.1 a q.2)
  | .inr ci => .inr (ci, (List.range (cN ci)).map (fv h0 sp M ci a))
def pic (h0 : Nat) (sp : Nat → Nat) (cy : Nat → ClassId) (M : Mem) : va_W := (List.range (po M.1)).map (fun i => (h0 + i, cellE h0 sp cy M (un i)))
def tyL (cy : Nat → ClassId) : List (ClassId × FieldType) := [(cy 0, .byte), (cy 1, .int), (cy 2, .long), (cy 3, .int), (cy 4, .object RX9)]
theorem pic_ix {h0 : Nat} {sp : Nat → Nat} {cy : Nat → ClassId} {M : Mem} {k : Nat} (h : k < po M.1) : (pic h0 sp cy M)[k]? = some (h0 + k, cellE h0 sp cy M (un k)) := by
  unfold pic
  rw [List.getElem?_map, List.getElem?_range h]
  rfl
theorem pic_at {h0 : Nat} {sp : Nat → Nat} {cy : Nat → ClassId} {M : Mem} {a : Nat} (h : a < M.1) (h8 : a ≠ 86) : (pic h0 sp cy M)[po a]? = some (h0 + po a, cellE h0 sp cy M a) := by
  rw [pic_ix (po_lt h h8), un_po h8]
theorem pic_some {h0 : Nat} {sp : Nat → Nat} {cy : Nat → ClassId} {M : Mem} {k : Nat} {q : Nat × va_E} (h : (pic h0 sp cy M)[k]? = some q) : k < po M.1 ∧ q = (h0 + k, cellE h0 sp cy M (un k)) := by
  have hk : k < po M.1 := by
    have := (List.getElem?_eq_some_iff.mp h).1
    simpa [pic] using this
  rw [pic_ix hk] at h
  exact ⟨hk, (Option.some.inj h).symm⟩
theorem pic_D {h0 : Nat} {sp : Nat → Nat} {cy : Nat → ClassId} {M : Mem} : va_D (fun q => h0 ≤ q) (pic h0 sp cy M) := by
  refine ⟨fun i j p q hi hj e => ?_, fun k q hk => ?_⟩
  · rw [(pic_some hi).2, (pic_some hj).2] at e
    have e : h0 + i = h0 + j := e
    omega
  · rw [(pic_some hk).2]
    exact Nat.le_add_right _ _
/-- one cell is changed -/
theorem pic_set {h0 : Nat} {sp : Nat → Nat} {cy : Nat → ClassId} {M M' : Mem} {a : Nat} {e : va_E} (ha : a < M.1) (h8 : a ≠ 86) (hn : M'.1 = M.1) (he : cellE h0 sp cy M' a = e) (ho : ∀ b, b ≠ a → cellE h0 sp cy M' b = cellE h0 sp cy M b) : (pic h0 sp cy M).set (po a) (h0 + po a, e) = pic h0 sp cy M' := by
  apply List.ext_getElem?
  intro k
  rw [List.getElem?_set]
  by_cases hk : po a = k
  · subst hk
    have hl : po a < (pic h0 sp cy M).length := by simpa [pic] using po_lt ha h8
    rw [if_pos rfl, if_pos hl, pic_at (by rw [hn]; exact ha) h8, he]
  · rw [if_neg hk]
    by_cases hkn : k < po M.1
    · rw [pic_ix hkn, pic_ix (by rw [hn]; exact hkn), ho (un k) (fun q => hk (by rw [← q]; exact po_un k))]
    · have l1 : (pic h0 sp cy M)[k]? = none := by
        apply List.getElem?_eq_none
        simpa [pic] using Nat.le_of_not_lt hkn
      have l2 : (pic h0 sp cy M')[k]? = none := by
        apply List.getElem?_eq_none
        simpa [pic, hn] using Nat.le_of_not_lt hkn
      rw [l1, l2]
/-- one cell is new -/
theorem pic_push {h0 : Nat} {sp : Nat → Nat} {cy : Nat → ClassId} {M M' : Mem} {e : va_E} (h8 : M.1 ≠ 86) (hn : M'.1 = M.1 + 1) (he : cellE h0 sp cy M' M.1 = e) (ho : ∀ b, b < M.1 → cellE h0 sp cy M' b = cellE h0 sp cy M b) : pic h0 sp cy M ++ [(h0 + po M.1, e)] = pic h0 sp cy M' := by
  apply List.ext_getElem?
  intro k
  have hl : (pic h0 sp cy M).length = po M.1 := by simp [pic]
  have hp : po M'.1 = po M.1 + 1 := by rw [hn, po_s h8]
  by_cases hk : k < po M.1
  · rw [List.getElem?_append_left (by rw [hl]; exact hk), pic_ix hk, pic_ix (by rw [hp]; omega), ho (un k) (un_lt hk)]
  · rw [List.getElem?_append_right (by rw [hl]; omega), hl]
    by_cases h1 : k = po M.1
    · subst h1
      rw [pic_ix (by rw [hp]; omega), un_po h8, he, Nat.sub_self]
      rfl
    · have l2 : (pic h0 sp cy M')[k]? = none := by
        apply List.getElem?_eq_none
        simp [pic, hp]
        omega
      rw [l2]
      apply List.getElem?_eq_none
      simp
      omega
/-- number 86 is passed over -/
theorem pic_skip {h0 : Nat} {sp : Nat → Nat} {cy : Nat → ClassId} {M M' : Mem} (h : M.1 = 86) (hn : M'.1 = 87) (ho : ∀ b, b < 86 → cellE h0 sp cy M' b = cellE h0 sp cy M b) : pic h0 sp cy M = pic h0 sp cy M' := by
  have e1 : po M.1 = 86 := by rw [h]; rfl
  have e2 : po M'.1 = 86 := by rw [hn]; rfl
  apply List.ext_getElem?
  intro k
  by_cases hk : k < 86
  · have hu : un k = k := if_pos hk
    rw [pic_ix (by rw [e1]; exact hk), pic_ix (by rw [e2]; exact hk), ho (un k) (by rw [hu]; exact hk)]
  · have l1 : (pic h0 sp cy M)[k]? = none := by
      apply List.getElem?_eq_none
      simpa [pic, e1] using Nat.le_of_not_lt hk
    have l2 : (pic h0 sp cy M')[k]? = none := by
      apply List.getElem?_eq_none
      simpa [pic, e2] using Nat.le_of_not_lt hk
    rw [l1, l2]
