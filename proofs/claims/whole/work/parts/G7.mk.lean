/-! SIZE: types' rows, parts, marks in the class -/
/-- so many are new, one behind the other -/
def CntR : (Fm → Prop) → List Fm → Nat → Prop
  | _, [], n => n = 0
  | S, f :: l, n => (S f ∧ CntR S l n) ∨ (¬ S f ∧ ∃ m, n = m + 1 ∧ CntR (fun g => S g ∨ g = f) l m)
theorem CntR.iff {S R : Fm → Prop} : ∀ {l : List Fm} {n : Nat}, (∀ f, f ∈ l → (S f ↔ R f)) → CntR S l n → CntR R l n := by
  intro l
  induction l generalizing S R with
  | nil => intro n _ h; exact h
  | cons f l ih =>
    intro n e h
    have e0 := e f List.mem_cons_self
    rcases h with ⟨h1, h2⟩ | ⟨h1, m, h2, h3⟩
    · exact Or.inl ⟨e0.mp h1, ih (fun g hg => e g (List.mem_cons_of_mem _ hg)) h2⟩
    · refine Or.inr ⟨fun q => h1 (e0.mpr q), m, h2, ih (fun g hg => ?_) h3⟩
      have := e g (List.mem_cons_of_mem _ hg)
      exact ⟨fun q => q.imp this.mp id, fun q => q.imp this.mpr id⟩
theorem CntR.fn : ∀ {l : List Fm} {S : Fm → Prop} {n m : Nat}, CntR S l n → CntR S l m → n = m := by
  intro l
  induction l with
  | nil =>
    intro S n m h1 h2
    have h1 : n = 0 := h1
    have h2 : m = 0 := h2
    omega
  | cons f l ih =>
    intro S n m h1 h2
    rcases h1 with ⟨a1, a2⟩ | ⟨a1, u, a2, a3⟩
    · rcases h2 with ⟨b1, b2⟩ | ⟨b1, v, b2, b3⟩
      · exact ih a2 b2
      · exact absurd a1 b1
    · rcases h2 with ⟨b1, b2⟩ | ⟨b1, v, b2, b3⟩
      · exact absurd b1 a1
      · have := ih a3 b3
        omega
theorem CntR.le : ∀ {l : List Fm} {S : Fm → Prop} {n : Nat}, CntR S l n → n ≤ l.length := by
  intro l
  induction l with
  | nil =>
    intro S n h
    have h : n = 0 := h
    omega
  | cons f l ih =>
    intro S n h
    rcases h with ⟨a1, a2⟩ | ⟨a1, u, a2, a3⟩
    · have := ih a2
      simp only [List.length_cons]
      omega
    · have := ih a3
      simp only [List.length_cons]
      omega
/-- a part of a formula -/
def prt (g : Fm) : Fm → Prop
  | .add a b => g = .add a b ∨ prt g a ∨ prt g b
  | .mul a b => g = .mul a b ∨ prt g a ∨ prt g b
  | .sub a b => g = .sub a b ∨ prt g a ∨ prt g b
  | f => g = f
theorem prt_mk {g a b : Fm} {j : Nat} (h1 : 9 ≤ j) (h2 : j ≤ 11) : prt g (mkF j a b) ↔ g = mkF j a b ∨ prt g a ∨ prt g b := by
  have hj : j = 9 ∨ j = 10 ∨ j = 11 := by omega
  rcases hj with rfl | rfl | rfl <;> exact Iff.rfl
theorem prt_self (f : Fm) : prt f f := by
  cases f with
  | add a b => exact Or.inl rfl
  | mul a b => exact Or.inl rfl
  | sub a b => exact Or.inl rfl
  | _ => exact rfl
theorem prt_dn {a b : Fm} {j : Nat} (h1 : 9 ≤ j) (h2 : j ≤ 11) (f : Fm) : prt (mkF j a b) f → prt a f ∧ prt b f := by
  have top : ∀ {x y : Fm} {i : Nat}, 9 ≤ i → i ≤ 11 → (prt (mkF j a b) x → prt a x ∧ prt b x) → (prt (mkF j a b) y → prt a y ∧ prt b y) → prt (mkF j a b) (mkF i x y) → prt a (mkF i x y) ∧ prt b (mkF i x y) := by
    intro x y i i1 i2 ix iy h
    rw [prt_mk i1 i2] at h ⊢
    rw [prt_mk i1 i2]
    rcases h with h | h | h
    · obtain ⟨-, ex, ey⟩ := mkF_inj h1 h2 i1 i2 h
      rw [ex, ey]
      exact ⟨Or.inr (Or.inl (prt_self _)), Or.inr (Or.inr (prt_self _))⟩
    · exact ⟨Or.inr (Or.inl (ix h).1), Or.inr (Or.inl (ix h).2)⟩
    · exact ⟨Or.inr (Or.inr (iy h).1), Or.inr (Or.inr (iy h).2)⟩
  have hj : j = 9 ∨ j = 10 ∨ j = 11 := by omega
  induction f with
  | add x y ix iy => exact top (i := 9) (by omega) (by omega) ix iy
  | mul x y ix iy => exact top (i := 10) (by omega) (by omega) ix iy
  | sub x y ix iy => exact top (i := 11) (by omega) (by omega) ix iy
  | _ =>
    intro h
    rcases hj with rfl | rfl | rfl <;> exact absurd h (by intro q; cases q)
/-- what is told: the parts of the hypotheses and of what is proved -/
def StF (H : List (Nat × Fm)) (x g : Fm) : Prop := prt g x ∨ ∃ j, ∃ hj : j < H.length, prt g H[j].2
section WTY
variable {Q R : Nat → Fm → Prop} {h : Nat} {Hf : Nat → Fm}
theorem Wt.and : ∀ t, isT t → ∀ {p : Nat} {G : Nat → Fm} {d : Nat} {x : Fm}, Wt Q h Hf t p G d x → Wt R h Hf t p G d x → Wt (fun i y => Q i y ∧ R i y) h Hf t p G d x := by
  apply tm_ind
  · intro k p G d x w v; exact ⟨w.1, w.2.1, w.2.2, v.2.2⟩
  · intro k p G d x w v; exact ⟨w.1, w.2.1, w.2.2, v.2.2⟩
  · intro o f a _ ha ih p G d x ⟨q1, y, q2, q3⟩ ⟨r1, y2, r2, r3⟩
    cases Wt.fn a ha q2 r2
    exact ⟨⟨q1, r1⟩, y, ih q2 r2, q3⟩
  · intro o a b _ ha hb ia ib p G d x ⟨q1, y, z, q2, q3, q4⟩ ⟨r1, y2, z2, r2, r3, r4⟩
    cases Wt.fn a ha q2 r2
    cases Wt.fn b hb q3 r3
    exact ⟨⟨q1, r1⟩, y, z, ia q2 r2, ib q3 r3, q4⟩
  · intro m a b hm ha hb im ia ib p G d x ⟨q1, y, z, q2, q3, q4⟩ ⟨r1, y2, z2, r2, r3, r4⟩
    cases Wt.fn m hm q2 r2
    exact ⟨⟨q1, r1⟩, y, z, im q2 r2, ia q3 r3, ib q4 r4⟩
theorem Wt.all : ∀ t, isT t → ∀ {p : Nat} {G : Nat → Fm} {d : Nat} {x : Fm}, Wt Q h Hf t p G d x → ∀ i, p ≤ i → i < p + sz t → ∃ y, Q i y := by
  apply tm_ind
  · intro k p G d x w i h1 h2
    rw [sz_L] at h2
    have : i = p := by omega
    subst this
    exact ⟨x, w.2.2⟩
  · intro k p G d x w i h1 h2
    rw [sz_H] at h2
    have : i = p := by omega
    subst this
    exact ⟨x, w.2.2⟩
  · intro o f a _ ha ih p G d x ⟨q1, y, q2, q3⟩ i h1 h2
    rw [sz_U] at h2
    by_cases e : i = p
    · subst e; exact ⟨x, q1⟩
    · exact ih q2 i (by omega) (by omega)
  · intro o a b _ ha hb ia ib p G d x ⟨q1, y, z, q2, q3, q4⟩ i h1 h2
    rw [sz_B] at h2
    by_cases e : i = p
    · subst e; exact ⟨x, q1⟩
    · by_cases e2 : i < p + 1 + sz a
      · exact ia q2 i (by omega) e2
      · exact ib q3 i (by omega) (by omega)
  · intro m a b hm ha hb im ia ib p G d x ⟨q1, y, z, q2, q3, q4⟩ i h1 h2
    rw [sz_C] at h2
    by_cases e : i = p
    · subst e; exact ⟨x, q1⟩
    · by_cases e2 : i < p + 1 + sz m
      · exact im q2 i (by omega) e2
      · by_cases e3 : i < p + 1 + sz m + sz a
        · exact ia q3 i (by omega) e3
        · exact ib q4 i (by omega) (by omega)
/-- the types of all nodes, as a function of the place -/
theorem Wt.fun : ∀ t, isT t → ∀ {p : Nat} {G : Nat → Fm} {d : Nat} {x : Fm}, Wt Q h Hf t p G d x → ∃ tl : Nat → Fm, Wt (fun i y => Q i y ∧ tl i = y) h Hf t p G d x := by
  have cut : ∀ {t : Tm}, isT t → ∀ {p : Nat} {G : Nat → Fm} {d : Nat} {x : Fm} {tl tl2 : Nat → Fm}, Wt (fun i y => Q i y ∧ tl i = y) h Hf t p G d x → (∀ i, p ≤ i → i < p + sz t → tl2 i = tl i) → Wt (fun i y => Q i y ∧ tl2 i = y) h Hf t p G d x := by
    intro t ht p G d x tl tl2 w e
    exact w.imp _ ht (fun i y h1 h2 g => ⟨g.1, (e i h1 h2).trans g.2⟩)
  apply tm_ind
  · intro k p G d x w; exact ⟨fun _ => x, w.1, w.2.1, w.2.2, rfl⟩
  · intro k p G d x w; exact ⟨fun _ => x, w.1, w.2.1, w.2.2, rfl⟩
  · intro o f a _ ha ih p G d x ⟨q1, y, q2, q3⟩
    obtain ⟨tl, w⟩ := ih q2
    exact ⟨fun i => if i = p then x else tl i, ⟨q1, if_pos rfl⟩, y, cut ha w (fun i h1 h2 => if_neg (by omega)), q3⟩
  · intro o a b _ ha hb ia ib p G d x ⟨q1, y, z, q2, q3, q4⟩
    obtain ⟨ta, wa⟩ := ia q2
    obtain ⟨tb, wb⟩ := ib q3
    refine ⟨fun i => if i = p then x else if i < p + 1 + sz a then ta i else tb i, ⟨q1, if_pos rfl⟩, y, z, cut ha wa (fun i h1 h2 => ?_), cut hb wb (fun i h1 h2 => ?_), q4⟩
    · show (if i = p then x else if i < p + 1 + sz a then ta i else tb i) = ta i
      rw [if_neg (by omega), if_pos h2]
    · show (if i = p then x else if i < p + 1 + sz a then ta i else tb i) = tb i
      rw [if_neg (by omega), if_neg (by omega)]
  · intro m a b hm ha hb im ia ib p G d x ⟨q1, y, z, q2, q3, q4⟩
    obtain ⟨tm, wm⟩ := im q2
    obtain ⟨ta, wa⟩ := ia q3
    obtain ⟨tb, wb⟩ := ib q4
    refine ⟨fun i => if i = p then x else if i < p + 1 + sz m then tm i else if i < p + 1 + sz m + sz a then ta i else tb i, ⟨q1, if_pos rfl⟩, y, z, cut hm wm (fun i h1 h2 => ?_), cut ha wa (fun i h1 h2 => ?_), cut hb wb (fun i h1 h2 => ?_)⟩
    · show (if i = p then x else if i < p + 1 + sz m then tm i else if i < p + 1 + sz m + sz a then ta i else tb i) = tm i
      rw [if_neg (by omega), if_pos h2]
    · show (if i = p then x else if i < p + 1 + sz m then tm i else if i < p + 1 + sz m + sz a then ta i else tb i) = ta i
      rw [if_neg (by omega), if_neg (by omega), if_pos h2]
    · show (if i = p then x else if i < p + 1 + sz m then tm i else if i < p + 1 + sz m + sz a then ta i else tb i) = tb i
      rw [if_neg (by omega), if_neg (by omega), if_neg (by omega)]
end WTY
/-! marks in the class -/
def S28 (a k : Nat) : Prop := (a = 2 ∧ k = 8) ∨ a = 8
/-- what is marked are the formulas of P -/
def MkS (M : Mem) (c s : Nat) (P : Fm → Prop) : Prop := s < 1000 ∧ M.2.2.1 2 8 = nI s ∧ (∀ i, i < 5200 → ∃ m, m ≤ s ∧ M.2.2.1 8 i = nI m) ∧ ∀ v, v < c → (M.2.2.1 8 v = nI s ↔ P (dC M v))
section MK7
variable {M M1 : Mem} {c s k : Nat} {P : Fm → Prop}
theorem TabC.s28 (hT : TabC M c) (F1 : Fr S28 M M1) : TabC M1 c ∧ ∀ i, dC M1 i = dC M i := hT.fr F1 (by unfold S28; omega) (by unfold S28; omega) (by unfold S28; omega) (by unfold S28; omega) (by unfold S28; omega) (by unfold S28; omega) (by unfold S28; omega)
theorem fO_2 (hW : Wd M) : fO M 2 1 := ⟨by rw [hW.1]; omega, s_2 hW⟩
theorem fA_8 (hW : Wd M) {i : Nat} (hi : i < 5200) : fA M 8 1 (nI i) := ⟨by rw [hW.1]; omega, 5200, s_8 hW, vp_nI hi (by omega)⟩
theorem c_beginMarks (hW : Wd M) (hT : TabC M c) (h : MkC k M) (hk : k < 900) (n : Nat) : ∃ M1 s, f_X1_beginMarks n 2 M = some ((), M1) ∧ Fr S28 M M1 ∧ MkS M1 c s (fun _ => False) ∧ s ≤ k + 1 := by
  obtain ⟨s, h1, h2, h3⟩ := h
  have hc := hT.2.1
  refine ⟨wI M 2 8 (nI (s + 1)), s + 1, ?_, Fr.refl.wI (Or.inl ⟨rfl, rfl⟩) _, ⟨by omega, by simp [up2_if], fun i hi => ?_, fun v hv => ?_⟩, by omega⟩
  · show T_X1_beginMarks_0 (fun v M => some (v, M)) none n 2 M = _
    unfold T_X1_beginMarks_0
    simp only [↓gd_pos (fO_2 hW), h2, nI_1]
  · obtain ⟨m, m1, m2⟩ := h3 i hi
    exact ⟨m, by omega, by simp [up2_if]; exact m2⟩
  · obtain ⟨m, m1, m2⟩ := h3 v (by omega)
    refine ⟨fun q => ?_, fun q => q.elim⟩
    simp [up2_if] at q
    rw [m2] at q
    have := (nI_eq (by omega) (by omega)).mp q
    omega
theorem c_mark (hW : Wd M) (hT : TabC M c) (h : MkS M c s P) (n : Nat) {v : Nat} (hv : v < c) : ∃ w M1, f_X1_mark n 2 (nI v) M = some (w, M1) ∧ Fr S28 M M1 ∧ MkS M1 c s (fun g => P g ∨ g = dC M v) ∧ (P (dC M v) → w = 0) ∧ (¬ P (dC M v) → w = 1) := by
  have h0 := h
  obtain ⟨hs, h1, h2, h3⟩ := h
  have hc := hT.2.1
  have hn0 : (nI v < (0 : Int32)) = False := nI_lt0 (by omega)
  have hle : (nI c ≤ nI v) = False := eq_false (by rw [nI_le_ (by omega) (by omega)]; omega)
  have ee : f_X1_mark n 2 (nI v) M = T_X1_mark_0 (fun v M => some (v, M)) none n 2 (nI v) M := rfl
  by_cases q : M.2.2.1 8 v = nI s
  · have hP := (h3 v hv).mp q
    refine ⟨0, M, ?_, Fr.refl, ⟨hs, h1, h2, fun u hu => ⟨fun g => Or.inl ((h3 u hu).mp g), fun g => ?_⟩⟩, fun _ => rfl, fun g => absurd hP g⟩
    · rw [ee]
      unfold T_X1_mark_0
      simp (disch := omega) only [hn0, ↓reduceIte, ↓gd_pos (fO_2 hW), hT.1, hle, ↓bnd_of (r_2_5 hW), ↓gd_pos (fA_8 hW (show v < 5200 by omega)), nI_z, q, h1]
    · rcases g with g | g
      · exact (h3 u hu).mpr g
      · have := hT.inj hu hv g
        subst this
        exact q
  · have hP : ¬ P (dC M v) := fun g => q ((h3 v hv).mpr g)
    have F : Fr S28 M (wI M 8 v (nI s)) := Fr.refl.wI (Or.inr rfl) _
    obtain ⟨-, d1⟩ := hT.s28 F
    refine ⟨1, wI M 8 v (nI s), ?_, F, ⟨hs, by simp [up2_if]; exact h1, fun i hi => ?_, fun u hu => ?_⟩, fun g => absurd g hP, fun _ => rfl⟩
    · rw [ee]
      unfold T_X1_mark_0
      have q' : (M.2.2.1 8 v = nI s) = False := eq_false q
      simp (disch := omega) only [hn0, ↓reduceIte, ↓gd_pos (fO_2 hW), hT.1, hle, ↓bnd_of (r_2_5 hW), ↓gd_pos (fA_8 hW (show v < 5200 by omega)), nI_z, q', h1]
    · by_cases e : i = v
      · exact ⟨s, Nat.le_refl _, by simp [up2_if, e]⟩
      · obtain ⟨m, m1, m2⟩ := h2 i hi
        exact ⟨m, m1, by simp [up2_if, e]; exact m2⟩
    · rw [d1]
      by_cases e : u = v
      · subst e
        exact ⟨fun _ => Or.inr rfl, fun _ => by simp [up2_if]⟩
      · refine ⟨fun g => Or.inl ((h3 u hu).mp ?_), fun g => ?_⟩
        · simp [up2_if, e] at g
          exact g
        · simp [up2_if, e]
          rcases g with g | g
          · exact (h3 u hu).mpr g
          · exact absurd (hT.inj hu hv g) e
theorem c_mark1 (n : Nat) : f_X1_mark n 2 (-1) M = some (0, M) := by
  show T_X1_mark_0 (fun v M => some (v, M)) none n 2 (-1) M = _
  unfold T_X1_mark_0
  simp only [show ((-1 : Int32) < 0) = True from eq_true (by decide), ↓reduceIte]
theorem MkS.iff {R : Fm → Prop} (h : MkS M c s P) (e : ∀ v, v < c → (P (dC M v) ↔ R (dC M v))) : MkS M c s R := ⟨h.1, h.2.1, h.2.2.1, fun v hv => (h.2.2.2 v hv).trans (e v hv)⟩
/-- the loop that marks the parts -/
theorem mp_loop {U : Fm → Prop} (hU : ∀ j a b, 9 ≤ j → j ≤ 11 → U (mkF j a b) → U a ∧ U b) (n : Nat) : ∀ z, ∀ (M : Mem) (P : Fm → Prop) (x : Int32), Wd M → TabC M c → z ≤ c → MkS M c s P → (∀ v, v < c → P (dC M v) → U (dC M v)) → (∀ v, v < c → z ≤ v → P (dC M v) → ∀ j a b, 9 ≤ j → j ≤ 11 → dC M v = mkF j a b → P a ∧ P b) → ∃ y M1 P1, lp (st_X1_markParts (n + 1)) (9, [.ref 2, .int x, .int (if z = 0 then -1 else nI (z - 1))], M) = some (y, M1) ∧ Fr S28 M M1 ∧ MkS M1 c s P1 ∧ (∀ g, P g → P1 g) ∧ (∀ v, v < c → P1 (dC M v) → U (dC M v)) ∧ ∀ v, v < c → P1 (dC M v) → ∀ j a b, 9 ≤ j → j ≤ 11 → dC M v = mkF j a b → P1 a ∧ P1 b := by
  intro z
  induction z with
  | zero =>
    intro M P x hW hT hz hS hPU hcl
    refine ⟨x, M, P, ?_, Fr.refl, hS, fun _ q => q, hPU, fun v hv => hcl v hv (Nat.zero_le _)⟩
    rw [if_pos rfl]
    refine (ge_X1_markParts_9 (n + 1) 2 x (-1) M).trans ?_
    unfold T_X1_markParts_9
    simp only [show ((-1 : Int32) < 0) = True from eq_true (by decide), ↓reduceIte]
  | succ z ih =>
    intro M P x hW hT hz hS hPU hcl
    have hc := hT.2.1
    rw [if_neg (by omega), Nat.add_sub_cancel]
    have hn0 : (nI z < (0 : Int32)) = False := nI_lt0 (by omega)
    have g1 : ∀ (M : Mem), lp (st_X1_markParts (n + 1)) (9, [.ref 2, .int x, .int (nI z)], M) = _ := fun M => ge_X1_markParts_9 (n + 1) 2 x (nI z) M
    have hdn : nI z + (-1) = (if z = 0 then -1 else nI (z - 1)) := by
      cases z with
      | zero => rfl
      | succ z => rw [nI_m1, if_neg (by omega), Nat.add_sub_cancel]
    have fA3 : fA M 8 1 (nI z) := fA_8 hW (by omega)
    have fA4 : fA M 4 1 (nI z) := ⟨by rw [hW.1]; omega, 5200, s_4 hW, vp_nI (by omega) (by omega)⟩
    by_cases q : M.2.2.1 8 z = nI s
    · have hP := (hS.2.2.2 z (by omega)).mp q
      have q' : (M.2.2.1 8 z = nI s) = True := eq_true q
      -- both parts marked
      have both : ∃ w1 w2 M1 M2 P2, f_X1_mark n 2 (M.2.2.1 4 z) M = some (w1, M1) ∧ f_X1_mark n 2 (M.2.2.1 5 z) M1 = some (w2, M2) ∧ Fr S28 M M1 ∧ Fr S28 M1 M2 ∧ MkS M2 c s P2 ∧ (∀ g, P g → P2 g) ∧ (∀ v, v < c → P2 (dC M v) → U (dC M v)) ∧ ∀ v, v < c → z ≤ v → P2 (dC M v) → ∀ j a b, 9 ≤ j → j ≤ 11 → dC M v = mkF j a b → P2 a ∧ P2 b := by
        by_cases h9 : z < 9
        · have e := hT.leaf h9
          rcases hT.2.2.1 z (by omega) with ⟨j, hj, e1, e2, e3⟩ | ⟨j, a, b, h1, h2, ha, hb, e1, e2, e3⟩
          · refine ⟨0, 0, M, M, P, by rw [e2]; exact c_mark1 n, by rw [e3]; exact c_mark1 n, Fr.refl, Fr.refl, hS, fun _ g => g, hPU, fun v hv hvz hPv j a b j1 j2 ej => ?_⟩
            by_cases ev : v = z
            · subst ev
              rw [e] at ej
              exact (mkF_ne ej.symm).elim
            · exact hcl v hv (by omega) hPv j a b j1 j2 ej
          · have := hT.2.2.2.2.1 z h9
            rw [e1] at this
            have := (nI_eq (by omega) (by omega)).mp this
            omega
        · obtain ⟨j, a, b, j1, j2, ha, hb, e1, e2, e3, e4⟩ := hT.node (by omega) (show z < c by omega)
          obtain ⟨w1, M1, y1, F1, S1, -, -⟩ := c_mark hW hT hS n (show a < c by omega)
          obtain ⟨T1, d1⟩ := hT.s28 F1
          obtain ⟨w2, M2, y2, F2, S2, -, -⟩ := c_mark (F1.Wd hW) T1 S1 n (show b < c by omega)
          rw [d1] at S2
          have hUz := hPU z (by omega) hP
          rw [e4] at hUz
          obtain ⟨ua, ub⟩ := hU j _ _ j1 j2 hUz
          refine ⟨w1, w2, M1, M2, _, by rw [e2]; exact y1, by rw [e3]; exact y2, F1, F2, S2, fun g hg => Or.inl (Or.inl hg), fun v hv hv2 => ?_, fun v hv hvz hPv i x y i1 i2 ev => ?_⟩
          · rcases hv2 with (g | g) | g
            · exact hPU v hv g
            · rw [g]; exact ua
            · rw [g]; exact ub
          · by_cases evz : v = z
            · subst evz
              rw [e4] at ev
              obtain ⟨-, ex, ey⟩ := mkF_inj j1 j2 i1 i2 ev
              rw [← ex, ← ey]
              exact ⟨Or.inl (Or.inr rfl), Or.inr rfl⟩
            · rcases hPv with (g | g) | g
              · obtain ⟨pa, pb⟩ := hcl v hv (by omega) g i x y i1 i2 ev
                exact ⟨Or.inl (Or.inl pa), Or.inl (Or.inl pb)⟩
              · have := hT.inj hv (show a < c by omega) g; omega
              · have := hT.inj hv (show b < c by omega) g; omega
      obtain ⟨w1, w2, M1, M2, P2, y1, y2, F1, F2, S2, b1, b2, b3⟩ := both
      have F12 := F1.trans F2
      obtain ⟨T2, d2⟩ := hT.s28 F12
      have hW1 := F1.Wd hW
      have hW2 := F12.Wd hW
      have fA5 : fA M1 5 1 (nI z) := ⟨by rw [hW1.1]; omega, 5200, s_5 hW1, vp_nI (by omega) (by omega)⟩
      have i5 : M1.2.2.1 5 z = M.2.2.1 5 z := F1.int (by unfold S28; omega)
      obtain ⟨y, M3, P3, e3, F3, S3, c1, c2, c3⟩ := ih M2 P2 (x + 1) hW2 T2 (by omega) S2 (fun v hv => by rw [d2]; exact b2 v hv) (fun v hv hvz => by rw [d2]; exact b3 v hv hvz)
      refine ⟨y, M3, P3, ?_, F12.trans F3, S3, fun g hg => c1 g (b1 g hg), fun v hv => by rw [← d2]; exact c2 v hv, fun v hv => by rw [← d2]; exact c3 v hv⟩
      rw [g1]
      unfold T_X1_markParts_9
      simp (disch := omega) only [hn0, ↓reduceIte, ↓gd_pos (fO_2 hW), ↓bnd_of (r_2_5 hW), ↓gd_pos fA3, nI_z, hS.2.1, q', ↓bnd_of (r_2_1 hW), ↓gd_pos fA4, ↓bnd2_of (show cal (n + 1) (fun zz => f_X1_mark zz 2 (M.2.2.1 4 z) M) = _ from y1), ↓gd_pos (fO_2 hW1), ↓bnd_of (r_2_2 hW1), ↓gd_pos fA5, i5, ↓bnd2_of (show cal (n + 1) (fun zz => f_X1_mark zz 2 (M.2.2.1 5 z) M1) = _ from y2), hdn]
      exact e3
    · have q' : (M.2.2.1 8 z = nI s) = False := eq_false q
      obtain ⟨y, M3, P3, e3, F3, S3, c1, c2, c3⟩ := ih M P x hW hT (by omega) hS hPU (fun v hv hvz hPv => by
        by_cases ev : v = z
        · subst ev
          exact absurd ((hS.2.2.2 v hv).mpr hPv) q
        · exact hcl v hv (by omega) hPv)
      refine ⟨y, M3, P3, ?_, F3, S3, c1, c2, c3⟩
      rw [g1]
      unfold T_X1_markParts_9
      simp (disch := omega) only [hn0, ↓reduceIte, ↓gd_pos (fO_2 hW), ↓bnd_of (r_2_5 hW), ↓gd_pos fA3, nI_z, hS.2.1, q', hdn]
      exact e3
end MK7
