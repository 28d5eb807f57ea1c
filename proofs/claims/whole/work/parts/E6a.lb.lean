/-! TOLD FORMULAS in a term: what steps make of them -/
def LbP (P : Fm → Prop) (t : Tm) : Prop := ∀ nd, nd ∈ rws t → tf nd.1 → P nd.2
def PtC (P : Fm → Prop) : Prop := ∀ a b, (P (.add a b) → P a ∧ P b) ∧ (P (.mul a b) → P a ∧ P b) ∧ (P (.sub a b) → P a ∧ P b)
theorem am_2 {o : Nat} (h : o ≠ 2) : amN o 0 = 0 := by
  unfold amN
  rw [if_neg h, if_neg (by omega)]
section LBP
variable {P : Fm → Prop} {h : Nat} {H : Nat → Fm} {l : List (Nat × Tm)}
theorem LbP_U {o : Nat} {f a : Tm} : LbP P (tU o f a) ↔ (tf o → P f) ∧ LbP P a := by
  unfold LbP
  rw [rws_U]
  constructor
  · intro w
    exact ⟨fun q => w (o, f) List.mem_cons_self q, fun nd hm => w nd (List.mem_cons_of_mem _ hm)⟩
  · intro ⟨w1, w2⟩ nd hm
    rcases List.mem_cons.mp hm with rfl | hm
    · exact w1
    · exact w2 nd hm
theorem LbP_B {o : Nat} {a b : Tm} (ho : o = 3 ∨ o = 4) : LbP P (tB o a b) ↔ LbP P a ∧ LbP P b := by
  unfold LbP
  rw [rws_B]
  constructor
  · intro w
    exact ⟨fun nd hm => w nd (List.mem_cons_of_mem _ (List.mem_append_left _ hm)), fun nd hm => w nd (List.mem_cons_of_mem _ (List.mem_append_right _ hm))⟩
  · intro ⟨w1, w2⟩ nd hm
    rcases List.mem_cons.mp hm with rfl | hm
    · intro q
      unfold tf at q
      exact absurd q (by show ¬ (o = 2 ∨ o = 7 ∨ o = 8 ∨ o = 10); omega)
    · rcases List.mem_append.mp hm with hm | hm
      · exact w1 nd hm
      · exact w2 nd hm
theorem LbP_C {m a b : Tm} : LbP P (tC m a b) ↔ LbP P m ∧ LbP P a ∧ LbP P b := by
  unfold LbP
  rw [rws_C]
  constructor
  · intro w
    exact ⟨fun nd hm => w nd (List.mem_cons_of_mem _ (List.mem_append_left _ hm)), fun nd hm => w nd (List.mem_cons_of_mem _ (List.mem_append_right _ (List.mem_append_left _ hm))), fun nd hm => w nd (List.mem_cons_of_mem _ (List.mem_append_right _ (List.mem_append_right _ hm)))⟩
  · intro ⟨w0, w1, w2⟩ nd hm
    rcases List.mem_cons.mp hm with rfl | hm
    · intro q
      unfold tf at q
      exact absurd q (by show ¬ ((9 : Nat) = 2 ∨ (9 : Nat) = 7 ∨ (9 : Nat) = 8 ∨ (9 : Nat) = 10); omega)
    · rcases List.mem_append.mp hm with hm | hm
      · exact w0 nd hm
      · rcases List.mem_append.mp hm with hm | hm
        · exact w1 nd hm
        · exact w2 nd hm
theorem LbP_N {t : Tm} (h : ∀ nd, nd ∈ rws t → nd.1 = 1) : LbP P t := fun nd hm q => by
  have := h nd hm
  unfold tf at q
  omega
theorem LbP_L {k : Nat} : LbP P (tL k) := LbP_N (fun nd hm => by rw [rws_L] at hm; rw [List.mem_singleton.mp hm])
theorem LbP_H {k : Nat} : LbP P (tH k) := LbP_N (fun nd hm => by rw [rws_H] at hm; rw [List.mem_singleton.mp hm])
theorem LbP_lft {lv w : Nat} : ∀ t, isT t → LbP P t → LbP P (lft lv w t) := by
  apply tm_ind
  · intro k _; rw [lft_L]; split <;> exact LbP_L
  · intro k _; rw [lft_H]; exact LbP_H
  · intro o f a _ _ ih q; rw [lft_U]; rw [LbP_U] at q ⊢; exact ⟨q.1, ih q.2⟩
  · intro o a b ho _ _ ia ib q; rw [lft_B]; rw [LbP_B ho] at q ⊢; exact ⟨ia q.1, ib q.2⟩
  · intro m a b _ _ _ im ia ib q; rw [lft_C]; rw [LbP_C] at q ⊢; exact ⟨im q.1, ia q.2.1, ib q.2.2⟩
theorem LbP_sbs {lv : Nat} {s : Tm} (hs : isT s) (h1 : LbP P s) : ∀ t, isT t → ∀ d, LbP P t → LbP P (sbs lv s t d) := by
  apply tm_ind
  · intro k d _
    rw [sbs_L]
    split
    · exact LbP_lft s hs h1
    · split <;> exact LbP_L
  · intro k d _; rw [sbs_H]; exact LbP_H
  · intro o f a _ _ ih d q; rw [sbs_U]; rw [LbP_U] at q ⊢; exact ⟨q.1, ih _ q.2⟩
  · intro o a b ho _ _ ia ib d q; rw [sbs_B]; rw [LbP_B ho] at q ⊢; exact ⟨ia _ q.1, ib _ q.2⟩
  · intro m a b _ _ _ im ia ib d q; rw [sbs_C]; rw [LbP_C] at q ⊢; exact ⟨im _ q.1, ia _ q.2.1, ib _ q.2.2⟩
theorem LbP_hbs {k : Nat} {s : Tm} (hs : isT s) (h1 : LbP P s) : ∀ t, isT t → ∀ d, LbP P t → LbP P (hbs k s t d) := by
  apply tm_ind
  · intro j d _; rw [hbs_L]; exact LbP_L
  · intro j d _
    rw [hbs_H]
    split
    · exact LbP_lft s hs h1
    · exact LbP_H
  · intro o f a _ _ ih d q; rw [hbs_U]; rw [LbP_U] at q ⊢; exact ⟨q.1, ih _ q.2⟩
  · intro o a b ho _ _ ia ib d q; rw [hbs_B]; rw [LbP_B ho] at q ⊢; exact ⟨ia _ q.1, ib _ q.2⟩
  · intro m a b _ _ _ im ia ib d q; rw [hbs_C]; rw [LbP_C] at q ⊢; exact ⟨im _ q.1, ia _ q.2.1, ib _ q.2.2⟩
/-- what stands under an eliminator that is no redex -/
theorem hd_ok {a : Tm} (ha : isT a) {y : Fm} {G : Nat → Fm} {d p : Nat} (hw : Wc (fun _ => True) h H a p G d y) {o : Nat} (hr : rdk o (ort a) = 0) (hs : (o = 3 ∧ ∃ u v, y = .add u v) ∨ ((o = 5 ∨ o = 6) ∧ ∃ u v, y = .mul u v) ∨ (o = 9 ∧ ∃ u v, y = .sub u v) ∨ (o = 10 ∧ y = .arg 8)) : ort a = 1 ∨ ort a = 3 ∨ ort a = 5 ∨ ort a = 6 := by
  have ho : o = 3 ∨ o = 5 ∨ o = 6 ∨ o = 9 ∨ o = 10 := by
    rcases hs with ⟨e, -⟩ | ⟨e, -⟩ | ⟨e, -⟩ | ⟨e, -⟩ <;> omega
  have h9 : ort a ≠ 9 := fun q => by
    rw [q] at hr
    rcases ho with rfl | rfl | rfl | rfl | rfl <;> exact absurd hr (by decide)
  have h10 : ort a ≠ 10 := fun q => by
    rw [q] at hr
    rcases ho with rfl | rfl | rfl | rfl | rfl <;> exact absurd hr (by decide)
  rcases ort_cs a ha with ⟨-, q⟩ | ⟨o1, f, b, rfl, q⟩ | ⟨o1, b, c, rfl, ho1, q⟩ | ⟨m, b, c, rfl, q⟩
  · exact Or.inl q
  · rw [q] at hr h9 h10 ⊢
    obtain ⟨-, z, -, r⟩ := hw
    rcases r with ⟨rfl, e⟩ | ⟨rfl, w, e⟩ | ⟨rfl, w, e⟩ | ⟨rfl, e⟩ | ⟨rfl, e⟩ | ⟨rfl, e, e'⟩
    · rcases hs with ⟨rfl, u, v, e2⟩ | ⟨-, u, v, e2⟩ | ⟨-, u, v, e2⟩ | ⟨-, e2⟩
      · exact absurd hr (by decide)
      · rw [e] at e2; cases e2
      · rw [e] at e2; cases e2
      · rw [e] at e2; cases e2
    · omega
    · omega
    · rcases hs with ⟨-, u, v, e2⟩ | ⟨-, u, v, e2⟩ | ⟨rfl, u, v, e2⟩ | ⟨-, e2⟩
      · rw [e] at e2; cases e2
      · rw [e] at e2; cases e2
      · exact absurd hr (by decide)
      · rw [e] at e2; cases e2
    · rcases hs with ⟨-, u, v, e2⟩ | ⟨-, u, v, e2⟩ | ⟨rfl, u, v, e2⟩ | ⟨-, e2⟩
      · rw [e] at e2; cases e2
      · rw [e] at e2; cases e2
      · exact absurd hr (by decide)
      · rw [e] at e2; cases e2
    · exact absurd rfl h10
  · rw [q] at hr ⊢
    obtain ⟨-, y1, z1, -, -, r⟩ := hw
    rcases r with ⟨rfl, e⟩ | ⟨rfl, e⟩
    · omega
    · rcases hs with ⟨-, u, v, e2⟩ | ⟨g | g, u, v, e2⟩ | ⟨-, u, v, e2⟩ | ⟨-, e2⟩
      · rw [e] at e2; cases e2
      · subst g; exact absurd hr (by decide)
      · subst g; exact absurd hr (by decide)
      · rw [e] at e2; cases e2
      · rw [e] at e2; cases e2
  · exact absurd q h9
theorem rdl_U {p o : Nat} {f a : Tm} (g : Sb l p (tU o f a)) (ha : isT a) : rdl l p = rdk o (ort a) := by
  have e := opl_sb g.U.2 (i := 0) (sz_pos a ha)
  unfold rdl
  rw [(opl_of g.U.1).1]
  exact congrArg (rdk o) e
theorem rdl_B {p o : Nat} {a b : Tm} (g : Sb l p (tB o a b)) (ha : isT a) : rdl l p = rdk o (ort a) := by
  have e := opl_sb g.B.2.1 (i := 0) (sz_pos a ha)
  unfold rdl
  rw [(opl_of g.B.1).1]
  exact congrArg (rdk o) e
theorem rdl_C {p : Nat} {m a b : Tm} (g : Sb l p (tC m a b)) (hm : isT m) : rdl l p = rdk 9 (ort m) := by
  have e := opl_sb g.C.2.1 (i := 0) (sz_pos m hm)
  unfold rdl
  rw [(opl_of g.C.1).1]
  exact congrArg (rdk 9) e
/-- a normal term with a name at its head has a type that is a part of one around -/
theorem nrm_ty (hP : PtC P) (hH : ∀ k, k < h → P (H k)) : ∀ t, isT t → ∀ {p d : Nat} {G : Nat → Fm} {x : Fm}, Sb l p t → (∀ i, p ≤ i → i < p + sz t → rdl l i = 0) → (∀ k, k < d → P (G k)) → Wc (fun _ => True) h H t p G d x → (ort t = 1 ∨ ort t = 3 ∨ ort t = 5 ∨ ort t = 6) → P x := by
  apply tm_ind
  · intro k p d G x _ _ hG hw _
    rw [hw.2.1]
    exact hG k hw.1
  · intro k p d G x _ _ _ hw _
    rw [hw.2.1]
    exact hH k hw.1
  · intro o f a ho ha ih p d G x hS hr hG hw hq
    have hq : o = 1 ∨ o = 3 ∨ o = 5 ∨ o = 6 := hq
    have h0 := hr p (Nat.le_refl _) (by rw [sz_U]; omega)
    rw [rdl_U hS ha] at h0
    have o56 : o = 5 ∨ o = 6 := by
      have := ho.rng
      unfold uOk tf at ho
      omega
    obtain ⟨-, y, q2, r⟩ := (Wc_U0 (show o ≠ 2 by omega)).mp hw
    have go : (∃ u v, y = .mul u v) → P y := fun e => ih hS.U.2 (fun i h1 h2 => hr i (by omega) (by rw [sz_U]; omega)) hG q2 (hd_ok ha q2 h0 (Or.inr (Or.inl ⟨o56, e⟩)))
    rcases r with ⟨rfl, e⟩ | ⟨rfl, w, e⟩ | ⟨rfl, w, e⟩ | ⟨rfl, e⟩ | ⟨rfl, e⟩ | ⟨rfl, e, e'⟩
    · omega
    · have := go ⟨_, _, e⟩; rw [e] at this; exact ((hP _ _).2.1 this).1
    · have := go ⟨_, _, e⟩; rw [e] at this; exact ((hP _ _).2.1 this).2
    · omega
    · omega
    · omega
  · intro o a b ho ha hb ia ib p d G x hS hr hG hw hq
    have hq : o = 1 ∨ o = 3 ∨ o = 5 ∨ o = 6 := hq
    have o3 : o = 3 := by omega
    subst o3
    have h0 := hr p (Nat.le_refl _) (by rw [sz_B]; omega)
    rw [rdl_B hS ha] at h0
    obtain ⟨-, y, z, q2, q3, r⟩ := hw
    rcases r with ⟨-, e⟩ | ⟨e0, -⟩
    · have := ia hS.B.2.1 (fun i h1 h2 => hr i (by omega) (by rw [sz_B]; omega)) hG q2 (hd_ok ha q2 h0 (Or.inl ⟨rfl, _, _, e⟩))
      rw [e] at this
      exact ((hP _ _).1 this).2
    · omega
  · intro m a b hm ha hb im ia ib p d G x hS hr hG hw hq
    have hq : (9 : Nat) = 1 ∨ (9 : Nat) = 3 ∨ (9 : Nat) = 5 ∨ (9 : Nat) = 6 := hq
    omega
theorem ups_P {G : Nat → Fm} {d : Nat} {f : Fm} (hG : ∀ k, k < d → P (G k)) (hf : P f) : ∀ k, k < d + 1 → P (ups G d f k) := fun k hk => by
  by_cases e : k = d
  · rw [e, ups_at]; exact hf
  · rw [ups_ne _ _ e]; exact hG k (by omega)
/-- what a case proves that is the first redex -/
theorem first_ty (hP : PtC P) (h8 : P (.arg 8)) (hH : ∀ k, k < h → P (H k)) {j : Nat} : ∀ t, isT t → ∀ {p d : Nat} {G : Nat → Fm} {x : Fm}, Sb l p t → LbP P t → (∀ i, p ≤ i → i < j → rdl l i = 0) → (∀ k, k < d → P (G k)) → Wc (fun _ => True) h H t p G d x → (P x ∨ ort t = 1 ∨ ort t = 3 ∨ ort t = 5 ∨ ort t = 6) → Wt (fun i y => i = j → opl l j = 9 → P y) h H t p G d x := by
  have tr : ∀ {t : Tm} {p d : Nat} {G : Nat → Fm} {x : Fm}, isT t → Wc (fun _ => True) h H t p G d x → (j < p ∨ p + sz t ≤ j) → Wt (fun i y => i = j → opl l j = 9 → P y) h H t p G d x := fun ht hw hj => hw.imp _ ht (fun i y h1 h2 _ e => by omega)
  apply tm_ind
  · intro k p d G x hS _ _ _ hw _
    have o1 := (opl_of hS.L).1
    exact ⟨hw.1, hw.2.1, fun e1 e2 => by rw [← e1, o1] at e2; cases e2⟩
  · intro k p d G x hS _ _ _ hw _
    have o1 := (opl_of hS.H).1
    exact ⟨hw.1, hw.2.1, fun e1 e2 => by rw [← e1, o1] at e2; cases e2⟩
  · intro o f a ho ha ih p d G x hS hL hr hG hw hx
    have o1 : opl l p = o := (opl_of hS.U.1).1
    have hrng := ho.rng
    have o9 : o ≠ 9 := by unfold uOk tf at ho; omega
    rw [LbP_U] at hL
    obtain ⟨-, y, q2, r⟩ := hw
    refine ⟨fun e1 e2 => by rw [← e1, o1] at e2; exact absurd e2 o9, y, ?_, r⟩
    by_cases hj : p < j
    · have h0 := hr p (Nat.le_refl _) hj
      rw [rdl_U hS ha] at h0
      have hr' : ∀ i, p + 1 ≤ i → i < j → rdl l i = 0 := fun i h1 h2 => hr i (by omega) h2
      have hx : P x ∨ o = 1 ∨ o = 3 ∨ o = 5 ∨ o = 6 := hx
      rcases r with ⟨rfl, e⟩ | ⟨rfl, w, e⟩ | ⟨rfl, w, e⟩ | ⟨rfl, e⟩ | ⟨rfl, e⟩ | ⟨rfl, e, e'⟩
      · have hxx : P x := hx.resolve_right (by omega)
        rw [e] at hxx
        exact ih hS.U.2 hL.2 hr' (ups_P hG (hL.1 (Or.inl rfl))) q2 (Or.inl ((hP _ _).1 hxx).2)
      · exact ih hS.U.2 hL.2 hr' hG q2 (Or.inr (hd_ok ha q2 h0 (Or.inr (Or.inl ⟨Or.inl rfl, _, _, e⟩))))
      · exact ih hS.U.2 hL.2 hr' hG q2 (Or.inr (hd_ok ha q2 h0 (Or.inr (Or.inl ⟨Or.inr rfl, _, _, e⟩))))
      · have hxx : P x := hx.resolve_right (by omega)
        rw [e] at hxx
        exact ih hS.U.2 hL.2 hr' hG q2 (Or.inl ((hP _ _).2.2 hxx).1)
      · have hxx : P x := hx.resolve_right (by omega)
        rw [e] at hxx
        exact ih hS.U.2 hL.2 hr' hG q2 (Or.inl ((hP _ _).2.2 hxx).2)
      · exact ih hS.U.2 hL.2 hr' hG q2 (Or.inl (by rw [e]; exact h8))
    · exact tr ha q2 (by omega)
  · intro o a b ho ha hb ia ib p d G x hS hL hr hG hw hx
    have o1 : opl l p = o := (opl_of hS.B.1).1
    rw [LbP_B ho] at hL
    obtain ⟨-, y, z, q2, q3, r⟩ := hw
    have hx : P x ∨ o = 1 ∨ o = 3 ∨ o = 5 ∨ o = 6 := hx
    refine ⟨fun e1 e2 => by rw [← e1, o1] at e2; omega, y, z, ?_, ?_, r⟩
    · by_cases hj : p < j
      · have h0 := hr p (Nat.le_refl _) hj
        rw [rdl_B hS ha] at h0
        have hr' : ∀ i, p + 1 ≤ i → i < j → rdl l i = 0 := fun i h1 h2 => hr i (by omega) h2
        rcases r with ⟨rfl, e⟩ | ⟨rfl, e⟩
        · exact ia hS.B.2.1 hL.1 hr' hG q2 (Or.inr (hd_ok ha q2 h0 (Or.inl ⟨rfl, _, _, e⟩)))
        · have hxx : P x := hx.resolve_right (by omega)
          rw [e] at hxx
          exact ia hS.B.2.1 hL.1 hr' hG q2 (Or.inl ((hP _ _).2.1 hxx).1)
      · exact tr ha q2 (by omega)
    · by_cases hj : p + 1 + sz a ≤ j
      · have h0 := hr p (Nat.le_refl _) (by omega)
        rw [rdl_B hS ha] at h0
        have hr' : ∀ i, p + 1 + sz a ≤ i → i < j → rdl l i = 0 := fun i h1 h2 => hr i (by omega) h2
        rcases r with ⟨rfl, e⟩ | ⟨rfl, e⟩
        · have hy := nrm_ty hP hH a ha hS.B.2.1 (fun i h1 h2 => hr i (by omega) (by omega)) hG q2 (hd_ok ha q2 h0 (Or.inl ⟨rfl, _, _, e⟩))
          rw [e] at hy
          exact ib hS.B.2.2 hL.2 hr' hG q3 (Or.inl ((hP _ _).1 hy).1)
        · have hxx : P x := hx.resolve_right (by omega)
          rw [e] at hxx
          exact ib hS.B.2.2 hL.2 hr' hG q3 (Or.inl ((hP _ _).2.1 hxx).2)
      · exact tr hb q3 (by omega)
  · intro m a b hm ha hb im ia ib p d G x hS hL hr hG hw hx
    have o1 : opl l p = 9 := (opl_of hS.C.1).1
    rw [LbP_C] at hL
    obtain ⟨-, y, z, q2, q3, q4⟩ := hw
    have hx : P x ∨ (9 : Nat) = 1 ∨ (9 : Nat) = 3 ∨ (9 : Nat) = 5 ∨ (9 : Nat) = 6 := hx
    have hxx : P x := hx.resolve_right (by omega)
    have hyz : p + 1 + sz m ≤ j → P (.sub y z) := fun hj => by
      have h0 := hr p (Nat.le_refl _) (by omega)
      rw [rdl_C hS hm] at h0
      exact nrm_ty hP hH m hm hS.C.2.1 (fun i h1 h2 => hr i (by omega) (by omega)) hG q2 (hd_ok hm q2 h0 (Or.inr (Or.inr (Or.inl ⟨rfl, _, _, rfl⟩))))
    refine ⟨fun _ _ => hxx, y, z, ?_, ?_, ?_⟩
    · by_cases hj : p < j
      · have h0 := hr p (Nat.le_refl _) hj
        rw [rdl_C hS hm] at h0
        exact im hS.C.2.1 hL.1 (fun i h1 h2 => hr i (by omega) h2) hG q2 (Or.inr (hd_ok hm q2 h0 (Or.inr (Or.inr (Or.inl ⟨rfl, _, _, rfl⟩)))))
      · exact tr hm q2 (by omega)
    · by_cases hj : p + 1 + sz m ≤ j
      · exact ia hS.C.2.2.1 hL.2.1 (fun i h1 h2 => hr i (by omega) h2) (ups_P hG ((hP _ _).2.2 (hyz hj)).1) q3 (Or.inl hxx)
      · exact tr ha q3 (by omega)
    · by_cases hj : p + 1 + sz m ≤ j
      · exact ib hS.C.2.2.2 hL.2.2 (fun i h1 h2 => hr i (by omega) h2) (ups_P hG ((hP _ _).2.2 (hyz hj)).2) q4 (Or.inl hxx)
      · exact tr hb q4 (by omega)
/-- TOLD FORMULAS behind a step -/
theorem StT.lb (hP : PtC P) (h8 : P (.arg 8)) (hH : ∀ k, k < h → P (H k)) {t t' : Tm} {k : Nat} (ht : isT t) (hs : StT h H t k t') {x : Fm} (hw : Wc (fun _ => True) h H t 0 gN 0 x) (hx : P x) (hL : LbP P t) : LbP P t' := by
  obtain ⟨j, s, e, Gs, y, s', K, x1, h1, h2, h3, h4, h5, h6, h7, h8', h9, h10, rfl⟩ := hs
  cases Wt.fn t ht hw h7
  obtain ⟨u, v, k1, k2, k3⟩ := h6.2.1
  have hLs : LbP P s := fun nd hm => hL nd (by rw [k1]; exact List.mem_append_right _ (List.mem_append_left _ hm))
  have fin : LbP P s' → LbP P (K s') := by
    intro g nd hm
    rw [k3] at hm
    rcases List.mem_append.mp hm with hm | hm
    · exact hL nd (by rw [k1]; exact List.mem_append_left _ hm)
    · rcases List.mem_append.mp hm with hm | hm
      · exact g nd hm
      · exact hL nd (by rw [k1]; exact List.mem_append_right _ (List.mem_append_right _ hm))
  have hf : ∀ i, 0 ≤ i → i < j → rdl (rws t) i = 0 := by
    rcases frx_is (rws t) (sz t) 0 with ⟨q, -⟩ | ⟨j', g1, g2, g3, g4, g5⟩
    · rw [q] at h1; cases h1
    · rw [g4] at h1
      cases h1
      exact g5
  have hws := h8' _ hw
  have hrt := h8' _ (first_ty hP h8 hH (j := j) t ht Sb.self hL hf (fun k hk => by omega) hw (Or.inl hx))
  have hrt2 := hrt.root s h4 rfl
  clear hrt
  apply fin
  rcases h10 with ⟨-, f, a, u, rfl, rfl⟩ | ⟨-, f, a, b, rfl, rfl⟩ | ⟨-, f, a, b, rfl, rfl⟩ | ⟨-, f, a, l, r, rfl, rfl⟩ | ⟨-, f, a, l, r, rfl, rfl⟩ | ⟨-, m, a, b, ⟨u, rfl, rfl⟩ | ⟨o, f, ho, rfl, rfl⟩ | ⟨l, r, rfl, rfl⟩⟩ | ⟨-, g, a, rfl, ⟨u, rfl⟩ | ⟨o, f, ho, rfl⟩ | ⟨l, r, rfl⟩⟩
  · rw [LbP_B (Or.inl rfl), LbP_U] at hLs
    exact LbP_sbs h4.2.2 hLs.2 a h4.2.1.2 _ hLs.1.2
  · rw [LbP_U, LbP_B (Or.inr rfl)] at hLs
    exact hLs.2.1
  · rw [LbP_U, LbP_B (Or.inr rfl)] at hLs
    exact hLs.2.2
  · rw [LbP_C, LbP_U] at hLs
    exact LbP_sbs h4.1.2 hLs.1.2 l h4.2.1 _ hLs.2.1
  · rw [LbP_C, LbP_U] at hLs
    exact LbP_sbs h4.1.2 hLs.1.2 r h4.2.2 _ hLs.2.2
  · rw [LbP_B (Or.inl rfl), LbP_C] at hLs
    have := LbP_lft (lv := e) (w := 1) u h4.2.2 hLs.2
    rw [LbP_C, LbP_B (Or.inl rfl), LbP_B (Or.inl rfl)]
    exact ⟨hLs.1.1, ⟨hLs.1.2.1, this⟩, hLs.1.2.2, this⟩
  · rw [LbP_U, LbP_C] at hLs
    rw [LbP_C, LbP_U, LbP_U]
    exact ⟨hLs.2.1, ⟨hLs.1, hLs.2.2.1⟩, hLs.1, hLs.2.2.2⟩
  · rw [LbP_C, LbP_C] at hLs
    have l1 := LbP_lft (lv := e) (w := 1) l h4.2.1 hLs.2.1
    have r1 := LbP_lft (lv := e) (w := 1) r h4.2.2 hLs.2.2
    rw [LbP_C, LbP_C, LbP_C]
    exact ⟨hLs.1.1, ⟨hLs.1.2.1, l1, r1⟩, hLs.1.2.2, l1, r1⟩
  · rw [LbP_B (Or.inl rfl), LbP_U] at hLs
    rw [LbP_U]
    refine ⟨fun _ => ?_, hLs.1.2⟩
    obtain ⟨-, y1, z1, q2, -, r⟩ := hws
    obtain ⟨-, y2, -, r2⟩ := (Wc_U0 (by omega)).mp q2
    have e1 : y2 = .arg 8 ∧ y1 = g := by simpa [rU] using r2
    have e2 : y1 = .add z1 y := by simpa [rB] using r
    have hg := hLs.1.1 (by unfold tf; omega)
    rw [← e1.2, e2] at hg
    exact ((hP _ _).1 hg).2
  · rw [LbP_U, LbP_U] at hLs
    rw [LbP_U]
    refine ⟨fun _ => ?_, hLs.2.2⟩
    obtain ⟨-, y1, q2, r⟩ := (Wc_U0 (show o ≠ 2 by omega)).mp hws
    obtain ⟨-, y2, -, r2⟩ := (Wc_U0 (by omega)).mp q2
    have e1 : y2 = .arg 8 ∧ y1 = g := by simpa [rU] using r2
    have hg := hLs.2.1 (by unfold tf; omega)
    rw [← e1.2] at hg
    rcases ho with rfl | rfl | rfl
    · obtain ⟨w, e2⟩ : ∃ w, y1 = .mul y w := by simpa [rU] using r
      rw [e2] at hg
      exact ((hP _ _).2.1 hg).1
    · obtain ⟨w, e2⟩ : ∃ w, y1 = .mul w y := by simpa [rU] using r
      rw [e2] at hg
      exact ((hP _ _).2.1 hg).2
    · have e2 : y1 = .arg 8 ∧ y = f := by simpa [rU] using r
      rw [e2.2]
      exact hLs.1 (by unfold tf; omega)
  · rw [LbP_C, LbP_U] at hLs
    rw [LbP_U]
    refine ⟨fun _ => ?_, hLs.1.2⟩
    exact hrt2 (opl_of (h5.sb ht Sb.self).C.1).1
theorem NrmR.lb (hP : PtC P) (h8 : P (.arg 8)) (hH : ∀ k, k < h → P (H k)) : ∀ z {t : Tm} {x : Fm} {r : List Nat × Tm}, isT t → Wc (fun _ => True) h H t 0 gN 0 x → P x → LbP P t → NrmR h H z t (some r) → LbP P r.2 := by
  intro z
  induction z with
  | zero =>
    intro t x r ht hw hx hL hn
    rcases hn with ⟨hf, e⟩ | ⟨-, e⟩
    · cases e
      exact hL
    · cases e
  | succ z ih =>
    intro t x r ht hw hx hL hn
    rcases hn with ⟨hf, e⟩ | ⟨k, u, hs, ⟨-, e⟩ | ⟨hz, o', ho, e⟩⟩
    · cases e
      exact hL
    · cases e
    · cases o' with
      | none => cases e
      | some r' =>
        have e : some r = some (k :: r'.1, r'.2) := e
        cases e
        exact ih (r := r') hs.tm (hs.wt ht hw) hx (hs.lb hP h8 hH ht hw hx hL) ho
end LBP
