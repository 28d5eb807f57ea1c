/-! WHILE CELLS ARE MADE: n of them stand, the references L are set, their numbers are f and g -/
def Cw (n : Nat) (L : List (Nat × Nat × Nat)) (f : Nat → Nat → Int32) (g : Nat → Nat → Int64) (M : Mem) : Prop :=
  M.1 = n ∧ (∀ a, a < n → M.2.1 a = S0 a) ∧ (∀ q ∈ L, q.1 < n ∧ M.2.2.2.2 q.1 q.2.1 = some q.2.2) ∧ (∀ a k, a < n → M.2.2.1 a k = f a k) ∧ (∀ a k, a < n → M.2.2.2.1 a k = g a k) ∧ (∀ a k, n ≤ a → f a k = 0) ∧ (∀ a k, n ≤ a → g a k = 0)
section CW
variable {n : Nat} {L : List (Nat × Nat × Nat)} {f : Nat → Nat → Int32} {g : Nat → Nat → Int64} {M : Mem}
theorem cw_l (h : Cw n L f g M) {a : Nat} (ha : a < n) : a < M.1 := by rw [h.1]; exact ha
theorem cw_s (h : Cw n L f g M) {a : Nat} (ha : a < n) {s : (Nat × Nat) ⊕ Nat} (hs : S0 a = s) : M.2.1 a = s := (h.2.1 a ha).trans hs
theorem cw_r (h : Cw n L f g M) {a k t : Nat} (hq : (a, k, t) ∈ L) : M.2.2.2.2 a k = some t := (h.2.2.1 _ hq).2
theorem cw_g (h : Cw n L f g M) {a k t ci : Nat} (hk : fK ci k = 2) (hq : (a, k, t) ∈ L) : gv M ci a k = .ref t := by
  unfold gv
  rw [hk]
  show va_rf (M.2.2.2.2 a k) = _
  rw [cw_r h hq]
  rfl
theorem cw_i (h : Cw n L f g M) {a k : Nat} (ha : a < n) : M.2.2.1 a k = f a k := h.2.2.2.1 a k ha
theorem cw_gi (h : Cw n L f g M) {a k ci : Nat} {x : Int32} (hk : fK ci k = 0) (ha : a < n) (hx : f a k = x) : gv M ci a k = .int x := by
  unfold gv
  rw [hk]
  show Value.int (M.2.2.1 a k) = _
  rw [cw_i h ha, hx]
theorem cw_new {s : (Nat × Nat) ⊕ Nat} (h : Cw n L f g M) (hs : S0 n = s) : Cw (n + 1) L f g (M.1 + 1, va_up M.2.1 M.1 s, va_up M.2.2.1 M.1 (fun _ => 0), va_up M.2.2.2.1 M.1 (fun _ => 0), va_up M.2.2.2.2 M.1 (fun _ => none)) := by
  obtain ⟨h1, h2, h3, h4, h5, h6, h7⟩ := h
  rw [h1]
  refine ⟨rfl, fun a ha => ?_, fun q hq => ?_, fun a k ha => ?_, fun a k ha => ?_, fun a k ha => h6 a k (by omega), fun a k ha => h7 a k (by omega)⟩
  · by_cases e : a = n
    · subst e
      show va_up M.2.1 a s a = _
      rw [vup_s, hs]
    · show va_up M.2.1 n s a = _
      rw [vup_n _ _ e]
      exact h2 a (by omega)
  · have hl := (h3 q hq).1
    refine ⟨by omega, ?_⟩
    show va_up M.2.2.2.2 n (fun _ => none) q.1 q.2.1 = _
    rw [vup_n _ _ (by omega)]
    exact (h3 q hq).2
  · by_cases e : a = n
    · subst e
      show va_up M.2.2.1 a (fun _ => 0) a k = _
      rw [vup_s, h6 a k (Nat.le_refl _)]
    · show va_up M.2.2.1 n (fun _ => 0) a k = _
      rw [vup_n _ _ e]
      exact h4 a k (by omega)
  · by_cases e : a = n
    · subst e
      show va_up M.2.2.2.1 a (fun _ => 0) a k = _
      rw [vup_s, h7 a k (Nat.le_refl _)]
    · show va_up M.2.2.2.1 n (fun _ => 0) a k = _
      rw [vup_n _ _ e]
      exact h5 a k (by omega)
theorem cw_nA {t len : Nat} (h : Cw n L f g M) (hs : S0 n = .inl (t, len)) : Cw (n + 1) L f g (nA M t len) := cw_new h hs
theorem cw_nO {ci : Nat} (h : Cw n L f g M) (hs : S0 n = .inr ci) : Cw (n + 1) L f g (nO M ci) := cw_new h hs
theorem cw_R {a k t : Nat} (h : Cw n L f g M) (ha : a < n) (hL : L.all (fun q => !(q.1 == a && q.2.1 == k)) = true) : Cw n ((a, k, t) :: L) f g (wR M a k (some t)) := by
  obtain ⟨h1, h2, h3, h4⟩ := h
  refine ⟨h1, h2, fun q hq => ?_, h4⟩
  rcases List.mem_cons.mp hq with rfl | hq
  · exact ⟨ha, up2_s _ _ _ _⟩
  · refine ⟨(h3 q hq).1, ?_⟩
    have hne := List.all_eq_true.mp hL q hq
    show up2 M.2.2.2.2 a k (some t) q.1 q.2.1 = _
    unfold up2
    rw [if_neg (by intro e; simp [e.1, e.2] at hne)]
    exact (h3 q hq).2
theorem cw_I {a k : Nat} {x : Int32} (h : Cw n L f g M) (ha : a < n) : Cw n L (up2 f a k x) g (wI M a k x) := by
  obtain ⟨h1, h2, h3, h4, h5, h6, h7⟩ := h
  refine ⟨h1, h2, h3, fun b j hb => ?_, h5, fun b j hb => ?_, h7⟩
  · show up2 M.2.2.1 a k x b j = up2 f a k x b j
    unfold up2
    by_cases e : b = a ∧ j = k
    · rw [if_pos e, if_pos e]
    · rw [if_neg e, if_neg e, h4 b j hb]
  · rw [up2_a _ _ _ _ (by omega)]
    exact h6 b j hb
theorem cw_J {a k : Nat} {x : Int64} (h : Cw n L f g M) (ha : a < n) : Cw n L f (up2 g a k x) (wJ M a k x) := by
  obtain ⟨h1, h2, h3, h4, h5, h6, h7⟩ := h
  refine ⟨h1, h2, h3, h4, fun b j hb => ?_, h6, fun b j hb => ?_⟩
  · show up2 M.2.2.2.1 a k x b j = up2 g a k x b j
    unfold up2
    by_cases e : b = a ∧ j = k
    · rw [if_pos e, if_pos e]
    · rw [if_neg e, if_neg e, h5 b j hb]
  · rw [up2_a _ _ _ _ (by omega)]
    exact h7 b j hb
end CW
theorem a_st {X : Nat × (Nat → Int32)} {B : Bx} {bc bs pc : Nat} {lv : List (Nat × Value)} {st st2 : List Value} {M : Mem} {Q : Option Value → Mem → Prop} (h : st = st2) (k : AW X B bc bs pc lv st2 M Q) : AW X B bc bs pc lv st M Q := h ▸ k
