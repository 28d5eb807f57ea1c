/-! THE REFERENCE's SEARCH: weights of formulas, what it may come to -/
def wv : Fm → Nat × Nat × Nat × Nat × Nat
  | .add a b => (if isn b = 1 then (wv a).2.2.2.2 else (wv a).2.2.1 + (wv a).2.2.2.1 * (wv b).1, 1 + (wv a).1 + (wv b).2.1, 2 + (wv a).1 + (wv b).2.1 + (wv b).2.2.1, (wv b).2.2.2.1, 2 + (wv a).1 + (wv b).2.1 + (wv b).2.2.2.2)
  | .mul a b => (1 + (wv a).1 + (wv b).1, 1 + max (wv a).2.1 (wv b).2.1, 1 + (wv a).2.2.1 + (wv a).2.2.2.1 * (wv b).2.2.1, (wv a).2.2.2.1 * (wv b).2.2.2.1, 1 + (wv a).2.2.1 + (wv a).2.2.2.1 * (wv b).2.2.2.2)
  | .sub a b => (1 + max (wv a).1 (wv b).1, 1 + max (wv a).2.1 (wv b).2.1, 1 + (wv a).2.2.1 + (wv b).2.2.1, (wv a).2.2.2.1 + (wv b).2.2.2.1, 1 + (wv a).2.2.2.2 + (wv b).2.2.2.2)
  | _ => (0, 0, 1, 1, 1)
/-- among the hypotheses -/
def wM (f : Fm) : Nat := (wv f).1
/-- as a goal -/
def wG (f : Fm) : Nat := (wv f).2.1
def wA (f : Fm) : Nat := (wv f).2.2.1
def wB (f : Fm) : Nat := (wv f).2.2.2.1
def wZ (f : Fm) : Nat := (wv f).2.2.2.2
theorem wM_imp (a b : Fm) : wM (.add a b) = if isn b = 1 then wZ a else wA a + wB a * wM b := rfl
theorem wB_pos (f : Fm) : 1 ≤ wB f := by
  induction f with
  | add a b ia ib => exact ib
  | mul a b ia ib => exact Nat.mul_pos ia ib
  | sub a b ia ib => show 1 ≤ wB a + wB b; omega
  | _ => exact Nat.le_refl _
theorem isn_is {f : Fm} (h : isn f = 1) : f = .arg 8 := by
  cases f with
  | arg k =>
    have h : (if k = 8 then 1 else 0) = 1 := h
    split at h
    · rename_i e; rw [e]
    · cases h
  | _ => cases h
theorem wM_no {f : Fm} (h : isn f = 1) : wM f = 0 := by rw [isn_is h]; rfl
theorem wM_ge (a b : Fm) : wM b ≤ wM (.add a b) := by
  rw [wM_imp]
  by_cases h : isn b = 1
  · rw [wM_no h]; exact Nat.zero_le _
  · rw [if_neg h]
    have h1 := wB_pos a
    have h2 : 1 * wM b ≤ wB a * wM b := Nat.mul_le_mul_right _ h1
    omega
theorem sM_and (x y c : Fm) : wM (.add (.mul x y) c) = 1 + wM (.add x (.add y c)) := by
  rw [wM_imp, wM_imp x, if_neg (show ¬ isn (.add y c) = 1 from Nat.zero_ne_one), wM_imp y]
  by_cases h : isn c = 1
  · rw [if_pos h, if_pos h]
    show 1 + wA x + wB x * wZ y = _
    omega
  · rw [if_neg h, if_neg h]
    show 1 + wA x + wB x * wA y + wB x * wB y * wM c = _
    rw [Nat.mul_add, Nat.mul_assoc]
    omega
theorem sM_or (x y c : Fm) : wM (.add (.sub x y) c) = 1 + wM (.add x c) + wM (.add y c) := by
  rw [wM_imp, wM_imp x, wM_imp y]
  by_cases h : isn c = 1
  · rw [if_pos h, if_pos h, if_pos h]; rfl
  · rw [if_neg h, if_neg h, if_neg h]
    show 1 + wA x + wA y + (wB x + wB y) * wM c = _
    rw [Nat.add_mul]
    omega
theorem sM_imp (x y c : Fm) : wM (.add (.add x y) c) = 2 + wM x + wG y + wM (.add y c) := by
  rw [wM_imp, wM_imp y]
  by_cases h : isn c = 1
  · rw [if_pos h, if_pos h]; rfl
  · rw [if_neg h, if_neg h]
    show 2 + wM x + wG y + wA y + wB y * wM c = _
    omega
theorem sM_atom (k : Nat) (c : Fm) : 1 + wM c ≤ wM (.add (.arg k) c) := by
  rw [wM_imp]
  by_cases h : isn c = 1
  · rw [if_pos h, wM_no h]; exact Nat.le_refl _
  · rw [if_neg h]
    show 1 + wM c ≤ 1 + 1 * wM c
    omega
theorem sM_imp2 (x y c : Fm) : 2 + wM c ≤ wM (.add (.add x y) c) := by
  have := sM_imp x y c
  have := wM_ge y c
  omega
/-- of a row -/
def wS : List Fm → Nat
  | [] => 0
  | f :: l => wM f + wS l
theorem wS_app : ∀ (l k : List Fm), wS (l ++ k) = wS l + wS k := by
  intro l k
  induction l with
  | nil => exact (Nat.zero_add _).symm
  | cons f l ih => show wM f + wS (l ++ k) = wM f + wS l + wS k; rw [ih]; omega
/-! what a row may come to: so many formulas at most -/
def gs : Fm → List Fm × (Fm → List Fm) × List Fm
  | .add a b => (.add a b :: ((gs a).2.1 b ++ (gs b).1), fun c => .add b c :: ((gs a).1 ++ (gs b).2.1 c), (gs a).1 ++ (gs b).2.2)
  | .mul a b => (.mul a b :: ((gs a).1 ++ (gs b).1), fun c => .add a (.add b c) :: .add b c :: ((gs a).2.1 (.add b c) ++ (gs b).2.1 c), (gs a).2.2 ++ (gs b).2.2)
  | .sub a b => (.sub a b :: ((gs a).1 ++ (gs b).1), fun c => .add a c :: .add b c :: ((gs a).2.1 c ++ (gs b).2.1 c), (gs a).2.2 ++ (gs b).2.2)
  | f => ([f], fun _ => [], [])
/-- what a formula that is granted may come to -/
def gr (f : Fm) : List Fm := (gs f).1
/-- an antecedent, by what it leads to -/
def sp (f c : Fm) : List Fm := (gs f).2.1 c
/-- what is asked -/
def ag (f : Fm) : List Fm := (gs f).2.2
theorem gs_len (f : Fm) : (gr f).length ≤ wdf f ∧ (∀ c, (sp f c).length + 1 ≤ wdf f) ∧ (ag f).length + 1 ≤ wdf f := by
  induction f with
  | add a b ia ib =>
    refine ⟨?_, fun c => ?_, ?_⟩
    · show ((sp a b ++ gr b).length + 1) ≤ 1 + wdf a + wdf b
      rw [List.length_append]
      have := ia.2.1 b
      have := ib.1
      omega
    · show ((gr a ++ sp b c).length + 1) + 1 ≤ 1 + wdf a + wdf b
      rw [List.length_append]
      have := ia.1
      have := ib.2.1 c
      omega
    · show (gr a ++ ag b).length + 1 ≤ 1 + wdf a + wdf b
      rw [List.length_append]
      have := ia.1
      have := ib.2.2
      omega
  | mul a b ia ib =>
    refine ⟨?_, fun c => ?_, ?_⟩
    · show ((gr a ++ gr b).length + 1) ≤ 1 + wdf a + wdf b
      rw [List.length_append]
      have := ia.1
      have := ib.1
      omega
    · show ((sp a (.add b c) ++ sp b c).length + 1 + 1) + 1 ≤ 1 + wdf a + wdf b
      rw [List.length_append]
      have := ia.2.1 (.add b c)
      have := ib.2.1 c
      omega
    · show (ag a ++ ag b).length + 1 ≤ 1 + wdf a + wdf b
      rw [List.length_append]
      have := ia.2.2
      have := ib.2.2
      omega
  | sub a b ia ib =>
    refine ⟨?_, fun c => ?_, ?_⟩
    · show ((gr a ++ gr b).length + 1) ≤ 1 + wdf a + wdf b
      rw [List.length_append]
      have := ia.1
      have := ib.1
      omega
    · show ((sp a c ++ sp b c).length + 1 + 1) + 1 ≤ 1 + wdf a + wdf b
      rw [List.length_append]
      have := ia.2.1 c
      have := ib.2.1 c
      omega
    · show (ag a ++ ag b).length + 1 ≤ 1 + wdf a + wdf b
      rw [List.length_append]
      have := ia.2.2
      have := ib.2.2
      omega
  | _ => exact ⟨Nat.le_refl _, fun _ => Nat.le_refl _, Nat.le_refl _⟩
theorem gr_self (f : Fm) : f ∈ gr f := by
  cases f with
  | _ => exact List.mem_cons_self
/-- all that a granted formula may come to lies in P -/
def Sub (l P : List Fm) : Prop := ∀ f, f ∈ l → f ∈ P
theorem Sub.app {l k P : List Fm} : Sub (l ++ k) P ↔ Sub l P ∧ Sub k P := ⟨fun h => ⟨fun f q => h f (List.mem_append_left _ q), fun f q => h f (List.mem_append_right _ q)⟩, fun h f q => (List.mem_append.mp q).elim (h.1 f) (h.2 f)⟩
theorem Sub.cons {x : Fm} {l P : List Fm} : Sub (x :: l) P ↔ x ∈ P ∧ Sub l P := ⟨fun h => ⟨h x List.mem_cons_self, fun f q => h f (List.mem_cons_of_mem _ q)⟩, fun h f q => (List.mem_cons.mp q).elim (fun e => by rw [e]; exact h.1) (h.2 f)⟩
section GS9
variable {P : List Fm} {x y c : Fm}
theorem gr_and (h : Sub (gr (.mul x y)) P) : Sub (gr x) P ∧ Sub (gr y) P := Sub.app.mp (Sub.cons.mp (show Sub (.mul x y :: (gr x ++ gr y)) P from h)).2
theorem gr_or (h : Sub (gr (.sub x y)) P) : Sub (gr x) P ∧ Sub (gr y) P := Sub.app.mp (Sub.cons.mp (show Sub (.sub x y :: (gr x ++ gr y)) P from h)).2
theorem gr_imp : Sub (gr (.add x y)) P ↔ ((Jvm.Term.add x y) ∈ P ∧ Sub (sp x y) P ∧ Sub (gr y) P) := by
  show Sub (.add x y :: (sp x y ++ gr y)) P ↔ _
  rw [Sub.cons, Sub.app]
theorem ag_imp (h : Sub (ag (.add x y)) P) : Sub (gr x) P ∧ Sub (ag y) P := Sub.app.mp (show Sub (gr x ++ ag y) P from h)
theorem ag_and (h : Sub (ag (.mul x y)) P) : Sub (ag x) P ∧ Sub (ag y) P := Sub.app.mp (show Sub (ag x ++ ag y) P from h)
theorem ag_or (h : Sub (ag (.sub x y)) P) : Sub (ag x) P ∧ Sub (ag y) P := Sub.app.mp (show Sub (ag x ++ ag y) P from h)
theorem sp_ag : ∀ (f c : Fm), Sub (sp f c) P → Sub (ag f) P := by
  intro f
  induction f with
  | add a b ia ib =>
    intro c h
    have h := Sub.app.mp (Sub.cons.mp (show Sub (.add b c :: (gr a ++ sp b c)) P from h)).2
    exact Sub.app.mpr (show Sub (gr a) P ∧ Sub (ag b) P from ⟨h.1, ib c h.2⟩)
  | mul a b ia ib =>
    intro c h
    have h := Sub.app.mp (Sub.cons.mp (Sub.cons.mp (show Sub (.add a (.add b c) :: .add b c :: (sp a (.add b c) ++ sp b c)) P from h)).2).2
    exact Sub.app.mpr (show Sub (ag a) P ∧ Sub (ag b) P from ⟨ia _ h.1, ib c h.2⟩)
  | sub a b ia ib =>
    intro c h
    have h := Sub.app.mp (Sub.cons.mp (Sub.cons.mp (show Sub (.add a c :: .add b c :: (sp a c ++ sp b c)) P from h)).2).2
    exact Sub.app.mpr (show Sub (ag a) P ∧ Sub (ag b) P from ⟨ia _ h.1, ib c h.2⟩)
  | _ => intro c h f q; exact absurd q (by simp [ag, gs])
theorem gr_iand (h : Sub (gr (.add (.mul x y) c)) P) : Sub (gr (.add x (.add y c))) P ∧ (Jvm.Term.add y c) ∈ P := by
  obtain ⟨h1, h2, h3⟩ := gr_imp.mp h
  have h2 := Sub.cons.mp (show Sub (.add x (.add y c) :: .add y c :: (sp x (.add y c) ++ sp y c)) P from h2)
  have h4 := Sub.cons.mp h2.2
  have h5 := Sub.app.mp h4.2
  exact ⟨gr_imp.mpr ⟨h2.1, h5.1, gr_imp.mpr ⟨h4.1, h5.2, h3⟩⟩, h4.1⟩
theorem gr_ior (h : Sub (gr (.add (.sub x y) c)) P) : Sub (gr (.add x c)) P ∧ Sub (gr (.add y c)) P := by
  obtain ⟨h1, h2, h3⟩ := gr_imp.mp h
  have h2 := Sub.cons.mp (show Sub (.add x c :: .add y c :: (sp x c ++ sp y c)) P from h2)
  have h4 := Sub.cons.mp h2.2
  have h5 := Sub.app.mp h4.2
  exact ⟨gr_imp.mpr ⟨h2.1, h5.1, h3⟩, gr_imp.mpr ⟨h4.1, h5.2, h3⟩⟩
theorem gr_iimp (h : Sub (gr (.add (.add x y) c)) P) : Sub (gr x) P ∧ Sub (gr (.add y c)) P ∧ Sub (ag y) P := by
  obtain ⟨h1, h2, h3⟩ := gr_imp.mp h
  have h2 := Sub.cons.mp (show Sub (.add y c :: (gr x ++ sp y c)) P from h2)
  have h4 := Sub.app.mp h2.2
  exact ⟨h4.1, gr_imp.mpr ⟨h2.1, h4.2, h3⟩, sp_ag y c h4.2⟩
end GS9
