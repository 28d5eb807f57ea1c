/-! METHODS AS FUNCTIONS OVER Mem: a block is a tree that is polymorphic in its answer -/
noncomputable def gd.{u} {α : Sort u} (P : Prop) (N A : α) : α := @ite α P (Classical.propDecidable P) A N
def bnd.{u} {α : Sort u} {β : Type} (x : Option β) (N : α) (k : β → α) : α := match x with
  | none => N
  | some b => k b
def bnd2.{u} {α : Sort u} {β : Type} (x : Option (β × Mem)) (N : α) (k : β → Mem → α) : α := match x with
  | none => N
  | some b => k b.1 b.2
def cal {β : Type} (n : Nat) (g : Nat → Option β) : Option β := match n with
  | 0 => none
  | k + 1 => g k
def vR.{u} {α : Sort u} (l : List Value) (N : α) (k : Nat → List Value → α) : α := match l with
  | .ref a :: t => k a t
  | _ => N
def vI.{u} {α : Sort u} (l : List Value) (N : α) (k : Int32 → List Value → α) : α := match l with
  | .int a :: t => k a t
  | _ => N
def vJ.{u} {α : Sort u} (l : List Value) (N : α) (k : Int64 → List Value → α) : α := match l with
  | .long a :: t => k a t
  | _ => N
def vE.{u} {α : Sort u} (l : List Value) (N : α) (k : α) : α := match l with
  | [] => k
  | _ => N
def fO (M : Mem) (a ci : Nat) : Prop := a < M.1 ∧ M.2.1 a = .inr ci
def fA (M : Mem) (a t : Nat) (i : Int32) : Prop := a < M.1 ∧ ∃ n, M.2.1 a = .inl (t, n) ∧ vp_in i n
def fBo (M : Mem) (a : Nat) (i : Int32) : Prop := a < M.1 ∧ ∃ t n, (t = 0 ∨ t = 3) ∧ M.2.1 a = .inl (t, n) ∧ vp_in i n
theorem gd_t {P A : Prop} (h : gd P False A) : P ∧ A := by
  unfold gd at h
  split at h
  · exact ⟨by assumption, h⟩
  · exact h.elim
theorem gd_pos.{u} {α : Sort u} {P : Prop} {N A : α} (h : P) : gd P N A = A := if_pos h
theorem gd_neg.{u} {α : Sort u} {P : Prop} {N A : α} (h : ¬ P) : gd P N A = N := if_neg h
theorem bnd_t {β : Type} {x : Option β} {k : β → Prop} (h : bnd x False k) : ∃ b, x = some b ∧ k b := by
  cases x with
  | none => exact h.elim
  | some b => exact ⟨b, rfl, h⟩
theorem bnd2_t {β : Type} {x : Option (β × Mem)} {k : β → Mem → Prop} (h : bnd2 x False k) : ∃ b m, x = some (b, m) ∧ k b m := by
  cases x with
  | none => exact h.elim
  | some b => exact ⟨b.1, b.2, rfl, h⟩
theorem cal_t {β : Type} {n : Nat} {g : Nat → Option β} {r : β} (h : cal n g = some r) : ∃ k, n = k + 1 ∧ g k = some r := by
  cases n with
  | zero => cases h
  | succ k => exact ⟨k, rfl, h⟩
theorem ite_t {c : Prop} [Decidable c] {A B : Prop} (hc : c) (h : if c then A else B) : A := by rwa [if_pos hc] at h
theorem ite_f {c : Prop} [Decidable c] {A B : Prop} (hc : ¬ c) (h : if c then A else B) : B := by rwa [if_neg hc] at h
theorem vR_t {l : List Value} {k : Nat → List Value → Prop} (h : vR l False k) : ∃ a t, l = .ref a :: t ∧ k a t := by
  unfold vR at h
  split at h
  · exact ⟨_, _, rfl, h⟩
  · exact h.elim
theorem vI_t {l : List Value} {k : Int32 → List Value → Prop} (h : vI l False k) : ∃ a t, l = .int a :: t ∧ k a t := by
  unfold vI at h
  split at h
  · exact ⟨_, _, rfl, h⟩
  · exact h.elim
theorem vJ_t {l : List Value} {k : Int64 → List Value → Prop} (h : vJ l False k) : ∃ a t, l = .long a :: t ∧ k a t := by
  unfold vJ at h
  split at h
  · exact ⟨_, _, rfl, h⟩
  · exact h.elim
theorem vE_t {l : List Value} {k : Prop} (h : vE l False k) : l = [] ∧ k := by
  unfold vE at h
  split at h
  · exact ⟨rfl, h⟩
  · exact h.elim
theorem nat_ite.{u, v} {α : Sort u} {β : Sort v} (h : α → β) (c : Prop) [Decidable c] (x y : α) : h (if c then x else y) = if c then h x else h y := by
  by_cases hc : c
  · rw [if_pos hc, if_pos hc]
  · rw [if_neg hc, if_neg hc]
theorem nat_gd.{u, v} {α : Sort u} {β : Sort v} (h : α → β) (P : Prop) (N A : α) : h (gd P N A) = gd P (h N) (h A) := by
  by_cases hc : P
  · rw [gd_pos hc, gd_pos hc]
  · rw [gd_neg hc, gd_neg hc]
theorem nat_bnd.{u, v} {α : Sort u} {β : Sort v} {γ : Type} (h : α → β) (x : Option γ) (N : α) (k : γ → α) : h (bnd x N k) = bnd x (h N) (fun b => h (k b)) := by cases x <;> rfl
theorem nat_bnd2.{u, v} {α : Sort u} {β : Sort v} {γ : Type} (h : α → β) (x : Option (γ × Mem)) (N : α) (k : γ → Mem → α) : h (bnd2 x N k) = bnd2 x (h N) (fun b m => h (k b m)) := by cases x <;> rfl
theorem nat_vR.{u, v} {α : Sort u} {β : Sort v} (h : α → β) (l : List Value) (N : α) (k : Nat → List Value → α) : h (vR l N k) = vR l (h N) (fun a t => h (k a t)) := by unfold vR; split <;> rfl
theorem nat_vI.{u, v} {α : Sort u} {β : Sort v} (h : α → β) (l : List Value) (N : α) (k : Int32 → List Value → α) : h (vI l N k) = vI l (h N) (fun a t => h (k a t)) := by unfold vI; split <;> rfl
theorem nat_vJ.{u, v} {α : Sort u} {β : Sort v} (h : α → β) (l : List Value) (N : α) (k : Int64 → List Value → α) : h (vJ l N k) = vJ l (h N) (fun a t => h (k a t)) := by unfold vJ; split <;> rfl
theorem nat_vE.{u, v} {α : Sort u} {β : Sort v} (h : α → β) (l : List Value) (N : α) (k : α) : h (vE l N k) = vE l (h N) (h k) := by unfold vE; split <;> rfl
/-! loops: the blocks of a method, one behind the other, till it returns -/
abbrev Sg : Type := Nat × List Value × Mem
def lpN {ρ : Type} (f : Sg → Option (Sg ⊕ ρ)) : Nat → Sg → Option ρ
  | 0, _ => none
  | k + 1, s => match f s with
    | none => none
    | some (.inl t) => lpN f k t
    | some (.inr r) => some r
noncomputable def lp {ρ : Type} (f : Sg → Option (Sg ⊕ ρ)) (s : Sg) : Option ρ := @dite (Option ρ) (∃ k r, lpN f k s = some r) (Classical.propDecidable _) (fun h => some h.choose_spec.choose) (fun _ => none)
theorem lpN_mono {ρ : Type} {f : Sg → Option (Sg ⊕ ρ)} : ∀ {k : Nat} {s : Sg} {r : ρ}, lpN f k s = some r → ∀ j, k ≤ j → lpN f j s = some r := by
  intro k
  induction k with
  | zero => intro s r h; cases h
  | succ k ih =>
    intro s r h j hj
    obtain ⟨i, rfl⟩ : ∃ i, j = i + 1 := ⟨j - 1, by omega⟩
    unfold lpN at h ⊢
    split at h
    · cases h
    · exact ih h i (by omega)
    · exact h
theorem lp_iff {ρ : Type} {f : Sg → Option (Sg ⊕ ρ)} {s : Sg} {r : ρ} : lp f s = some r ↔ ∃ k, lpN f k s = some r := by
  unfold lp
  constructor
  · intro h
    split at h
    · rename_i q
      cases h
      exact ⟨_, q.choose_spec.choose_spec⟩
    · cases h
  · rintro ⟨k, hk⟩
    have q : ∃ k r, lpN f k s = some r := ⟨k, r, hk⟩
    rw [dif_pos q]
    have h1 := lpN_mono q.choose_spec.choose_spec (max k q.choose) (Nat.le_max_right _ _)
    have h2 := lpN_mono hk (max k q.choose) (Nat.le_max_left _ _)
    rw [← h1, h2]
/-- what comes of the answer of a block -/
noncomputable def lpK {ρ : Type} (f : Sg → Option (Sg ⊕ ρ)) (o : Option (Sg ⊕ ρ)) : Option ρ := match o with
  | none => none
  | some (.inl t) => lp f t
  | some (.inr r) => some r
theorem lp_eq {ρ : Type} (f : Sg → Option (Sg ⊕ ρ)) (s : Sg) : lp f s = lpK f (f s) := by
  apply Option.ext
  intro r
  rw [lp_iff]
  unfold lpK
  constructor
  · rintro ⟨k, hk⟩
    cases k with
    | zero => cases hk
    | succ k =>
      unfold lpN at hk
      split at hk
      · cases hk
      · rename_i t e
        exact lp_iff.mpr ⟨k, hk⟩
      · rename_i t e
        exact hk
  · intro h
    split at h
    · cases h
    · rename_i t e
      obtain ⟨k, hk⟩ := lp_iff.mp h
      exact ⟨k + 1, by unfold lpN; rw [e]; exact hk⟩
    · rename_i t e
      exact ⟨1, by unfold lpN; rw [e]; exact h⟩
def lpP {ρ : Type} (P : Sg → ρ → Prop) (r : ρ) (o : Option (Sg ⊕ ρ)) : Prop := match o with
  | none => False
  | some (.inl t) => P t r
  | some (.inr q) => q = r
theorem lp_snd {ρ : Type} {f : Sg → Option (Sg ⊕ ρ)} {P : Sg → ρ → Prop} (h : ∀ s r, lpP P r (f s) → P s r) {s : Sg} {r : ρ} (hl : lp f s = some r) : P s r := by
  obtain ⟨k, hk⟩ := lp_iff.mp hl
  induction k generalizing s with
  | zero => cases hk
  | succ k ih =>
    refine h s r ?_
    unfold lpN at hk
    unfold lpP
    split at hk
    · cases hk
    · rename_i t e
      exact ih (lp_iff.mpr ⟨k, hk⟩) hk
    · rename_i t e
      exact Option.some.inj hk
/-! contracts with one answer -/
abbrev AE (y : MethodName) (cc : ByteArray) (nL : Nat) (ret : Option FieldType) (al : Bool) (n : Nat) (X : Nat × (Nat → Int32)) (As : List Value) (M : Mem) (v0 : Option Value) (M0 : Mem) : Prop := AM y cc nL ret al n 0 0 X As M (fun v M1 => v = v0 ∧ M1 = M0)
theorem fa_nil {α : Type} {p : α → Prop} : ∀ q ∈ ([] : List α), p q := fun _ h => by cases h
theorem fa_cons {α : Type} {p : α → Prop} {a : α} {l : List α} (h : p a) (k : ∀ q ∈ l, p q) : ∀ q ∈ a :: l, p q := fun q hq => by
  rcases List.mem_cons.mp hq with rfl | hq
  · exact h
  · exact k q hq
theorem gvR {M : Mem} {ci a k r : Nat} (h : M.2.2.2.2 a k = some r) (hk : fK ci k = 2) : gv M ci a k = .ref r := by
  unfold gv
  rw [hk]
  show va_rf (M.2.2.2.2 a k) = _
  rw [h]
  rfl
theorem ne_toInt {x k : Int32} {z : Int} (h : ¬ x = k) (hz : k.toInt = z) : x.toInt ≠ z := fun q => h (Int32.toInt_inj.mp (q.trans hz.symm))
section AEC
variable {X : Nat × (Nat → Int32)} {B : Bx} {pc : Nat} {lv : List (Nat × Value)} {st : List Value} {M : Mem} {Q : Option Value → Mem → Prop}
theorem e_callV {y : MethodName} {cc : ByteArray} {nL n fr idx ci a : Nat} {ret : Option FieldType} {As : List Value} {v0 : Option Value} {M0 : Mem} (nst : Bool) (hd : decode B.2.1 pc = .ok (.invokevirtual idx, 3)) (hw : MW y cc nL n ret) (hlk : (nst = false ∧ Cond.methodLink B.1 idx y ∈ TT) ∨ (nst = true ∧ Cond.methodLinkNest B.1 idx y "ProofTrim" ∈ NW)) (hin : Cond.instanceMethod y ∈ TT) (hse : Cond.selects (cNm ci) y y ∈ TT) (hci : ci < 12) (ha : a < M.1) (hs : M.2.1 a = .inr ci) (hn : As.length = n) (hst : (st.map fun v => v.category).sum ≤ 8) (hfr : B.2.2.2.2.2.2 = fr + 1)
    (hM : AE y cc nL ret B.2.2.2.2.2.1 fr X (.ref a :: As) M v0 M0) (kk : AW X B 0 0 (pc + 3) lv (v0.toList ++ st) M0 Q) : AW X B 0 0 pc lv (As.reverse ++ .ref a :: st) M Q :=
  a_callV (bc := 0) (bs := 0) nst hd hw hfr hlk hin hse hci ha hs hn hst hM (fun v M1 hq => by rw [hq.1, hq.2]; exact kk)
theorem e_callS {y : MethodName} {cc : ByteArray} {nL n fr idx : Nat} {ret : Option FieldType} {As : List Value} {v0 : Option Value} {M0 : Mem} (nst : Bool) (hd : decode B.2.1 pc = .ok (.invokestatic idx, 3)) (hw : MW y cc nL n ret) (hlk : (nst = false ∧ Cond.methodLink B.1 idx y ∈ TT) ∨ (nst = true ∧ Cond.methodLinkNest B.1 idx y "ProofTrim" ∈ NW)) (hsta : Cond.static y ∈ TT) (hn : As.length = n) (hst : (st.map fun v => v.category).sum ≤ 8) (hfr : B.2.2.2.2.2.2 = fr + 1)
    (hM : AE y cc nL ret B.2.2.2.2.2.1 fr X As M v0 M0) (kk : AW X B 0 0 (pc + 3) lv (v0.toList ++ st) M0 Q) : AW X B 0 0 pc lv (As.reverse ++ st) M Q :=
  a_callS (bc := 0) (bs := 0) nst hd hw hfr hlk hsta hn hst hM (fun v M1 hq => by rw [hq.1, hq.2]; exact kk)
theorem e_callT {y : MethodName} {cc : ByteArray} {nL n fr idx i : Nat} {ret : Option FieldType} {As : List Value} {v0 : Option Value} {M0 : Mem} (hd : decode B.2.1 pc = .ok (.invokevirtual idx, 3)) (hw : MW y cc nL n ret) (hlk : Cond.methodLink B.1 idx y ∈ TT) (hin : Cond.instanceMethod y ∈ TT) (hse : Cond.selects "java/lang/String" y y ∈ TT) (hi : i < 2) (hn : As.length = n) (hst : (st.map fun v => v.category).sum ≤ 8) (hfr : B.2.2.2.2.2.2 = fr + 1)
    (hM : AE y cc nL ret B.2.2.2.2.2.1 fr X (.ref (1000004 + i) :: As) M v0 M0) (kk : AW X B 0 0 (pc + 3) lv (v0.toList ++ st) M0 Q) : AW X B 0 0 pc lv (As.reverse ++ .ref (1000004 + i) :: st) M Q :=
  a_callT (bc := 0) (bs := 0) hd hw hfr hlk hin hse hi hn hst hM (fun v M1 hq => by rw [hq.1, hq.2]; exact kk)
end AEC
