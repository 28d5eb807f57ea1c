/-! WHAT A TERM PROVES -/
def kdf : Fm → Nat
  | .arg k => k
  | .add _ _ => 9
  | .mul _ _ => 10
  | .sub _ _ => 11
  | _ => 12
theorem kdf_mk {j : Nat} (h1 : 9 ≤ j) (h2 : j ≤ 11) (a b : Fm) : kdf (mkF j a b) = j := by
  have hj : j = 9 ∨ j = 10 ∨ j = 11 := by omega
  rcases hj with rfl | rfl | rfl <;> rfl
theorem kdf_of {j : Nat} (h1 : 9 ≤ j) (h2 : j ≤ 11) {f : Fm} (h : kdf f = j) (hk : ∀ k, f = .arg k → k < 9) : ∃ a b, f = mkF j a b := by
  have hj : j = 9 ∨ j = 10 ∨ j = 11 := by omega
  cases f with
  | arg k =>
    have := hk k rfl
    rw [show kdf (.arg k) = k from rfl] at h
    omega
  | add a b =>
    have : j = 9 := h.symm
    subst this
    exact ⟨a, b, rfl⟩
  | mul a b =>
    have : j = 10 := h.symm
    subst this
    exact ⟨a, b, rfl⟩
  | sub a b =>
    have : j = 11 := h.symm
    subst this
    exact ⟨a, b, rfl⟩
  | _ => exact absurd (show 12 = j from h) (by omega)
/-- the class's table, a number at a time -/
theorem TabC.kd {M : Mem} {c : Nat} (h : TabC M c) {v : Nat} (hv : v < c) : M.2.2.1 3 v = nI (kdf (dC M v)) ∧ kdf (dC M v) ≤ 11 ∧ (∀ k, dC M v = .arg k → k < 9 ∧ v = k) := by
  by_cases h9 : v < 9
  · rw [h.leaf h9]
    exact ⟨h.2.2.2.2.1 v h9, by show v ≤ 11; omega, fun k e => by cases e; exact ⟨h9, rfl⟩⟩
  · obtain ⟨j, a, b, h1, h2, ha, hb, e1, e2, e3, e4⟩ := h.node (by omega) hv
    rw [e4, kdf_mk h1 h2]
    exact ⟨e1, h2, fun k e => (mkF_ne e).elim⟩
theorem TabC.two {M : Mem} {c : Nat} (h : TabC M c) {v : Nat} (hv : v < c) {j : Nat} (h1 : 9 ≤ j) (h2 : j ≤ 11) {x y : Fm} (e : dC M v = mkF j x y) : ∃ a b, a < c ∧ b < c ∧ M.2.2.1 4 v = nI a ∧ M.2.2.1 5 v = nI b ∧ dC M a = x ∧ dC M b = y := by
  by_cases h9 : v < 9
  · rw [h.leaf h9] at e
    exact (mkF_ne e.symm).elim
  · obtain ⟨j', a, b, g1, g2, ha, hb, e1, e2, e3, e4⟩ := h.node (by omega) hv
    rw [e4] at e
    obtain ⟨-, ex, ey⟩ := mkF_inj g1 g2 h1 h2 e
    exact ⟨a, b, by omega, by omega, e2, e3, ex, ey⟩
def rU (o : Nat) (f y x : Fm) : Prop := (o = 2 ∧ x = .add f y) ∨ (o = 5 ∧ ∃ w, y = .mul x w) ∨ (o = 6 ∧ ∃ w, y = .mul w x) ∨ (o = 7 ∧ x = .sub y f) ∨ (o = 8 ∧ x = .sub f y) ∨ (o = 10 ∧ y = .arg 8 ∧ x = f)
def rB (o : Nat) (y z x : Fm) : Prop := (o = 3 ∧ y = .add z x) ∨ (o = 4 ∧ x = .mul y z)
/-- a term at a place proves a formula, names around it being told for some; a property of all nodes besides -/
def Wt (Q : Nat → Fm → Prop) (h : Nat) (H : Nat → Fm) : Tm → Nat → (Nat → Fm) → Nat → Fm → Prop
  | .index k, p, G, d, x => k < d ∧ x = G k ∧ Q p x
  | .arg k, p, _, _, x => k < h ∧ x = H k ∧ Q p x
  | .elem (.rem (.index o) f) a, p, G, d, x => Q p x ∧ ∃ y, Wt Q h H a (p + 1) (if o = 2 then ups G d f else G) (d + amN o 0) y ∧ rU o f y x
  | .div (.rem (.index o) a) b, p, G, d, x => Q p x ∧ ∃ y z, Wt Q h H a (p + 1) G d y ∧ Wt Q h H b (p + 1 + sz a) G d z ∧ rB o y z x
  | .sub (.rem m a) b, p, G, d, x => Q p x ∧ ∃ y z, Wt Q h H m (p + 1) G d (.sub y z) ∧ Wt Q h H a (p + 1 + sz m) (ups G d y) (d + 1) x ∧ Wt Q h H b (p + 1 + sz m + sz a) (ups G d z) (d + 1) x
  | _, _, _, _, _ => False
section WT
variable {Q R : Nat → Fm → Prop} {h : Nat} {H : Nat → Fm}
theorem Wt.root : ∀ t, isT t → ∀ {p : Nat} {G : Nat → Fm} {d : Nat} {x : Fm}, Wt Q h H t p G d x → Q p x := by
  apply tm_ind
  · intro k p G d x h; exact h.2.2
  · intro k p G d x h; exact h.2.2
  · intro o f a _ _ _ p G d x h; exact h.1
  · intro o a b _ _ _ _ _ p G d x h; exact h.1
  · intro m a b _ _ _ _ _ _ p G d x h; exact h.1
/-- another property of the same nodes -/
theorem Wt.imp : ∀ t, isT t → ∀ {p : Nat} {G : Nat → Fm} {d : Nat} {x : Fm}, (∀ i y, p ≤ i → i < p + sz t → Q i y → R i y) → Wt Q h H t p G d x → Wt R h H t p G d x := by
  apply tm_ind
  · intro k p G d x e w; exact ⟨w.1, w.2.1, e p x (Nat.le_refl _) (by rw [sz_L]; omega) w.2.2⟩
  · intro k p G d x e w; exact ⟨w.1, w.2.1, e p x (Nat.le_refl _) (by rw [sz_H]; omega) w.2.2⟩
  · intro o f a _ _ ih p G d x e w
    rw [sz_U] at e
    obtain ⟨q, y, w1, r⟩ := w
    exact ⟨e p x (Nat.le_refl _) (by omega) q, y, ih (fun i y h1 h2 => e i y (by omega) (by omega)) w1, r⟩
  · intro o a b _ _ _ ia ib p G d x e w
    rw [sz_B] at e
    obtain ⟨q, y, z, w1, w2, r⟩ := w
    exact ⟨e p x (Nat.le_refl _) (by omega) q, y, z, ia (fun i y h1 h2 => e i y (by omega) (by omega)) w1, ib (fun i y h1 h2 => e i y (by omega) (by omega)) w2, r⟩
  · intro m a b _ _ _ im ia ib p G d x e w
    rw [sz_C] at e
    obtain ⟨q, y, z, w1, w2, w3⟩ := w
    exact ⟨e p x (Nat.le_refl _) (by omega) q, y, z, im (fun i y h1 h2 => e i y (by omega) (by omega)) w1, ia (fun i y h1 h2 => e i y (by omega) (by omega)) w2, ib (fun i y h1 h2 => e i y (by omega) (by omega)) w3⟩
theorem rU.fn {o : Nat} {f y x x2 : Fm} (h1 : rU o f y x) (h2 : rU o f y x2) : x = x2 := by
  rcases h1 with ⟨e, h1⟩ | ⟨e, w, h1⟩ | ⟨e, w, h1⟩ | ⟨e, h1⟩ | ⟨e, h1⟩ | ⟨e, -, h1⟩ <;> rcases h2 with ⟨e2, h2⟩ | ⟨e2, w2, h2⟩ | ⟨e2, w2, h2⟩ | ⟨e2, h2⟩ | ⟨e2, h2⟩ | ⟨e2, -, h2⟩ <;> first | omega | skip
  · rw [h1, h2]
  · rw [h1] at h2; cases h2; rfl
  · rw [h1] at h2; cases h2; rfl
  · rw [h1, h2]
  · rw [h1, h2]
  · rw [h1, h2]
theorem rB.fn {o : Nat} {y z x x2 : Fm} (h1 : rB o y z x) (h2 : rB o y z x2) : x = x2 := by
  rcases h1 with ⟨e, h1⟩ | ⟨e, h1⟩ <;> rcases h2 with ⟨e2, h2⟩ | ⟨e2, h2⟩ <;> first | omega | skip
  · rw [h1] at h2; cases h2; rfl
  · rw [h1, h2]
/-- a term proves one formula -/
theorem Wt.fn : ∀ t, isT t → ∀ {p p2 : Nat} {G : Nat → Fm} {d : Nat} {x x2 : Fm}, Wt Q h H t p G d x → Wt R h H t p2 G d x2 → x = x2 := by
  apply tm_ind
  · intro k p p2 G d x x2 h1 h2; rw [h1.2.1, h2.2.1]
  · intro k p p2 G d x x2 h1 h2; rw [h1.2.1, h2.2.1]
  · intro o f a _ _ ih p p2 G d x x2 h1 h2
    obtain ⟨-, y, w1, r1⟩ := h1
    obtain ⟨-, y2, w2, r2⟩ := h2
    have := ih w1 w2
    subst this
    exact r1.fn r2
  · intro o a b _ _ _ ia ib p p2 G d x x2 h1 h2
    obtain ⟨-, y, z, w1, v1, r1⟩ := h1
    obtain ⟨-, y2, z2, w2, v2, r2⟩ := h2
    have e1 := ia w1 w2
    have e2 := ib v1 v2
    subst e1 e2
    exact r1.fn r2
  · intro m a b _ _ _ im ia _ p p2 G d x x2 h1 h2
    obtain ⟨-, y, z, w1, v1, -⟩ := h1
    obtain ⟨-, y2, z2, w2, v2, -⟩ := h2
    have e1 := im w1 w2
    cases e1
    exact ia v1 v2
end WT
/-- what is told wrongly first, or what is proved -/
noncomputable def tyU (o : Nat) (f x : Fm) (q : Nat) : Nat ⊕ Fm := @dite _ (∃ y, rU o f x y) (Classical.propDecidable _) (fun h => .inr h.choose) (fun _ => .inl q)
noncomputable def tyB (o : Nat) (x y : Fm) (q1 q2 : Nat) : Nat ⊕ Fm := @dite _ (∃ z, rB o x y z) (Classical.propDecidable _) (fun h => .inr h.choose) (fun _ => .inl (if o = 3 ∧ kdf x = 9 then q2 else q1))
noncomputable def tyE (u w : Fm) (q : Nat) : Nat ⊕ Fm := @ite _ (u = w) (Classical.propDecidable _) (.inr u) (.inl q)
def sbd (x : Nat ⊕ Fm) (k : Fm → Nat ⊕ Fm) : Nat ⊕ Fm := match x with
  | .inl e => .inl e
  | .inr y => k y
def dO : Fm → Option (Fm × Fm)
  | .sub y z => some (y, z)
  | _ => none
def obd (x : Option (Fm × Fm)) (n : Nat ⊕ Fm) (k : Fm → Fm → Nat ⊕ Fm) : Nat ⊕ Fm := match x with
  | none => n
  | some y => k y.1 y.2
noncomputable def ty (H : Nat → Fm) : Tm → Nat → (Nat → Fm) → Nat → Nat ⊕ Fm
  | .index k, _, G, _ => .inr (G k)
  | .arg k, _, _, _ => .inr (H k)
  | .elem (.rem (.index o) f) a, p, G, d => sbd (ty H a (p + 1) (if o = 2 then ups G d f else G) (d + amN o 0)) (fun x => tyU o f x (p + 1))
  | .div (.rem (.index o) a) b, p, G, d => sbd (ty H a (p + 1) G d) (fun x => sbd (ty H b (p + 1 + sz a) G d) (fun y => tyB o x y (p + 1) (p + 1 + sz a)))
  | .sub (.rem m a) b, p, G, d => sbd (ty H m (p + 1) G d) (fun s => obd (dO s) (.inl (p + 1)) (fun y z => sbd (ty H a (p + 1 + sz m) (ups G d y) (d + 1)) (fun u => sbd (ty H b (p + 1 + sz m + sz a) (ups G d z) (d + 1)) (fun w => tyE u w (p + 1 + sz m + sz a)))))
  | _, _, _, _ => .inl 0
section TYE
variable {H : Nat → Fm} {o p d : Nat} {f a b m : Tm} {G : Nat → Fm}
theorem ty_U : ty H (tU o f a) p G d = sbd (ty H a (p + 1) (if o = 2 then ups G d f else G) (d + amN o 0)) (fun x => tyU o f x (p + 1)) := by rw [ty]
theorem ty_B : ty H (tB o a b) p G d = sbd (ty H a (p + 1) G d) (fun x => sbd (ty H b (p + 1 + sz a) G d) (fun y => tyB o x y (p + 1) (p + 1 + sz a))) := by rw [ty]
theorem ty_C : ty H (tC m a b) p G d = sbd (ty H m (p + 1) G d) (fun s => obd (dO s) (.inl (p + 1)) (fun y z => sbd (ty H a (p + 1 + sz m) (ups G d y) (d + 1)) (fun u => sbd (ty H b (p + 1 + sz m + sz a) (ups G d z) (d + 1)) (fun w => tyE u w (p + 1 + sz m + sz a))))) := by rw [ty]
theorem ty_L {k : Nat} : ty H (tL k) p G d = .inr (G k) := by rw [ty]
theorem ty_H {k : Nat} : ty H (tH k) p G d = .inr (H k) := by rw [ty]
end TYE
theorem sbd_l (e : Nat) (k : Fm → Nat ⊕ Fm) : sbd (.inl e) k = .inl e := rfl
theorem sbd_r (y : Fm) (k : Fm → Nat ⊕ Fm) : sbd (.inr y) k = k y := rfl
theorem dO_no {f : Fm} (h : kdf f ≠ 11) : dO f = none := by
  cases f with
  | sub a b => exact (h rfl).elim
  | _ => rfl
theorem tyU_ok {o : Nat} {f x y : Fm} {q : Nat} (h : rU o f x y) : tyU o f x q = .inr y := by
  unfold tyU
  rw [dif_pos ⟨y, h⟩]
  exact congrArg Sum.inr ((Exists.choose_spec (⟨y, h⟩ : ∃ y, rU o f x y)).fn h)
theorem tyU_no {o : Nat} {f x : Fm} {q : Nat} (h : ∀ y, ¬ rU o f x y) : tyU o f x q = .inl q := by
  unfold tyU
  rw [dif_neg (fun ⟨y, k⟩ => h y k)]
theorem tyB_ok {o : Nat} {x y z : Fm} {q1 q2 : Nat} (h : rB o x y z) : tyB o x y q1 q2 = .inr z := by
  unfold tyB
  rw [dif_pos ⟨z, h⟩]
  exact congrArg Sum.inr ((Exists.choose_spec (⟨z, h⟩ : ∃ z, rB o x y z)).fn h)
theorem tyB_no {o : Nat} {x y : Fm} {q1 q2 : Nat} (h : ∀ z, ¬ rB o x y z) : tyB o x y q1 q2 = .inl (if o = 3 ∧ kdf x = 9 then q2 else q1) := by
  unfold tyB
  rw [dif_neg (fun ⟨y, k⟩ => h y k)]
theorem ty_Wt {Q : Nat → Fm → Prop} {h : Nat} {H : Nat → Fm} : ∀ t, isT t → ∀ {p q : Nat} {G : Nat → Fm} {d : Nat} {x : Fm}, Wt Q h H t q G d x → ty H t p G d = .inr x := by
  apply tm_ind
  · intro k p q G d x w; rw [w.2.1, ty_L]
  · intro k p q G d x w; rw [w.2.1, ty_H]
  · intro o f a _ _ ih p q G d x w
    obtain ⟨-, y, w1, r1⟩ := w
    rw [ty_U, ih w1, sbd_r, tyU_ok r1]
  · intro o a b _ _ _ ia ib p q G d x w
    obtain ⟨-, y, z, w1, v1, r1⟩ := w
    rw [ty_B, ia w1, sbd_r, ib v1, sbd_r, tyB_ok r1]
  · intro m a b _ _ _ im ia ib p q G d x w
    obtain ⟨-, y, z, w1, v1, u1⟩ := w
    rw [ty_C, im w1, sbd_r]
    show sbd (ty H a (p + 1 + sz m) (ups G d y) (d + 1)) (fun u => sbd (ty H b (p + 1 + sz m + sz a) (ups G d z) (d + 1)) (fun w => tyE u w (p + 1 + sz m + sz a))) = _
    rw [ia v1, sbd_r, ib u1, sbd_r]
    exact if_pos rfl
