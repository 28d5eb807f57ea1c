/-! TERMS AS TREES (within Jvm.Term), and their rows of nodes -/
abbrev Tm : Type := Jvm.Term
abbrev tU (o : Nat) (f a : Tm) : Tm := .elem (.rem (.index o) f) a
abbrev tB (o : Nat) (a b : Tm) : Tm := .div (.rem (.index o) a) b
abbrev tC (m a b : Tm) : Tm := .sub (.rem m a) b
abbrev tL (k : Nat) : Tm := .index k
abbrev tH (k : Nat) : Tm := .arg k
/-- which nodes tell a formula -/
def tf (o : Nat) : Prop := o = 2 ∨ o = 7 ∨ o = 8 ∨ o = 10
def uOk (o : Nat) (f : Tm) : Prop := tf o ∨ ((o = 5 ∨ o = 6) ∧ f = .null)
def isT : Tm → Prop
  | .index _ => True
  | .arg _ => True
  | .elem (.rem (.index o) f) a => uOk o f ∧ isT a
  | .div (.rem (.index o) a) b => (o = 3 ∨ o = 4) ∧ isT a ∧ isT b
  | .sub (.rem m a) b => isT m ∧ isT a ∧ isT b
  | _ => False
theorem tm_ind {P : Tm → Prop} (hL : ∀ k, P (tL k)) (hH : ∀ k, P (tH k)) (hU : ∀ o f a, uOk o f → isT a → P a → P (tU o f a)) (hB : ∀ o a b, (o = 3 ∨ o = 4) → isT a → isT b → P a → P b → P (tB o a b)) (hC : ∀ m a b, isT m → isT a → isT b → P m → P a → P b → P (tC m a b)) : ∀ t, isT t → P t := by
  intro t
  induction t using isT.induct with
  | case1 k => intro _; exact hL k
  | case2 k => intro _; exact hH k
  | case3 o f a ih => intro h; exact hU o f a h.1 h.2 (ih h.2)
  | case4 o a b i1 i2 => intro h; exact hB o a b h.1 h.2.1 h.2.2 (i1 h.2.1) (i2 h.2.2)
  | case5 m a b i1 i2 i3 => intro h; exact hC m a b h.1 h.2.1 h.2.2 (i1 h.1) (i2 h.2.1) (i3 h.2.2)
  | case6 t h1 h2 h3 h4 h5 =>
    intro h
    rw [isT] at h
    · exact h.elim
    · exact h1
    · exact h2
    · exact h3
    · exact h4
    · exact h5
def rws : Tm → List (Nat × Tm)
  | .index k => [(1, .index k)]
  | .arg k => [(1, .arg k)]
  | .elem (.rem (.index o) f) a => (o, f) :: rws a
  | .div (.rem (.index o) a) b => (o, .null) :: (rws a ++ rws b)
  | .sub (.rem m a) b => (9, .null) :: (rws m ++ (rws a ++ rws b))
  | _ => []
def sz (t : Tm) : Nat := (rws t).length
section TM
variable {o k : Nat} {f a b m t : Tm}
theorem rws_L : rws (tL k) = [(1, .index k)] := rfl
theorem rws_H : rws (tH k) = [(1, .arg k)] := rfl
theorem rws_U : rws (tU o f a) = (o, f) :: rws a := rfl
theorem rws_B : rws (tB o a b) = (o, .null) :: (rws a ++ rws b) := rfl
theorem rws_C : rws (tC m a b) = (9, .null) :: (rws m ++ (rws a ++ rws b)) := rfl
theorem sz_L : sz (tL k) = 1 := rfl
theorem sz_H : sz (tH k) = 1 := rfl
theorem sz_U : sz (tU o f a) = sz a + 1 := rfl
theorem sz_B : sz (tB o a b) = sz a + sz b + 1 := by
  show ((o, Jvm.Term.null) :: (rws a ++ rws b)).length = _
  simp only [List.length_cons, List.length_append, sz]
theorem sz_C : sz (tC m a b) = sz m + sz a + sz b + 1 := by
  show ((9, Jvm.Term.null) :: (rws m ++ (rws a ++ rws b))).length = _
  simp only [List.length_cons, List.length_append, sz]
  omega
end TM
theorem sz_pos : ∀ t, isT t → 0 < sz t := by
  apply tm_ind
  · intro k; exact Nat.one_pos
  · intro k; exact Nat.one_pos
  · intro o f a _ _ _; rw [sz_U]; omega
  · intro o a b _ _ _ _ _; rw [sz_B]; omega
  · intro m a b _ _ _ _ _ _; rw [sz_C]; omega
theorem uOk.rng {o : Nat} {f : Tm} (h : uOk o f) : 2 ≤ o ∧ o ≤ 10 ∧ o ≠ 3 ∧ o ≠ 4 ∧ o ≠ 9 := by
  unfold uOk tf at h
  omega
theorem rws_ok : ∀ t, isT t → ∀ nd, nd ∈ rws t → 1 ≤ nd.1 ∧ nd.1 ≤ 10 := by
  apply tm_ind
  · intro k nd h
    rw [rws_L, List.mem_singleton] at h
    subst h
    exact ⟨Nat.le_refl _, by omega⟩
  · intro k nd h
    rw [rws_H, List.mem_singleton] at h
    subst h
    exact ⟨Nat.le_refl _, by omega⟩
  · intro o f a ho _ ih nd h
    rw [rws_U, List.mem_cons] at h
    have := ho.rng
    rcases h with rfl | h
    · exact ⟨by omega, by omega⟩
    · exact ih nd h
  · intro o a b ho _ _ ia ib nd h
    rw [rws_B, List.mem_cons, List.mem_append] at h
    rcases h with rfl | h | h
    · exact ⟨by omega, by omega⟩
    · exact ia nd h
    · exact ib nd h
  · intro m a b _ _ _ im ia ib nd h
    rw [rws_C, List.mem_cons, List.mem_append, List.mem_append] at h
    rcases h with rfl | h | h | h
    · exact ⟨by omega, by omega⟩
    · exact im nd h
    · exact ia nd h
    · exact ib nd h
/-- how many terms are in a node -/
def ar (o : Nat) : Nat := if o = 1 then 0 else if o = 9 then 3 else if o = 3 ∨ o = 4 then 2 else 1
theorem arF_is : ∀ o, 1 ≤ o → o ≤ 10 → arF o = nI (ar o) := by
  intro o h1 h2
  have := (show ∀ o, o < 11 → 1 ≤ o → arF o = nI (ar o) by decide +kernel) o (by omega) h1
  exact this
theorem ar_U {o : Nat} {f : Tm} (h : uOk o f) : ar o = 1 := by
  have := h.rng
  unfold ar
  rw [if_neg (by omega), if_neg (by omega), if_neg (by omega)]
theorem ar_B {o : Nat} (h : o = 3 ∨ o = 4) : ar o = 2 := by
  unfold ar
  rw [if_neg (by omega), if_neg (by omega), if_pos h]
/-- a term stands in a row at a place -/
def Sb (l : List (Nat × Tm)) (p : Nat) (t : Tm) : Prop := ∃ x y, l = x ++ (rws t ++ y) ∧ x.length = p
section SB
variable {l : List (Nat × Tm)} {p o k : Nat} {f a b m t : Tm}
theorem Sb.le (h : Sb l p t) : p + sz t ≤ l.length := by
  obtain ⟨x, y, e, hx⟩ := h
  rw [e, List.length_append, List.length_append]
  unfold sz
  omega
theorem Sb.L (h : Sb l p (tL k)) : l[p]? = some (1, .index k) := by
  obtain ⟨x, y, e, hx⟩ := h
  rw [e, List.getElem?_append_right (by omega), show p - x.length = 0 by omega]
  rfl
theorem Sb.H (h : Sb l p (tH k)) : l[p]? = some (1, .arg k) := by
  obtain ⟨x, y, e, hx⟩ := h
  rw [e, List.getElem?_append_right (by omega), show p - x.length = 0 by omega]
  rfl
theorem Sb.U (h : Sb l p (tU o f a)) : l[p]? = some (o, f) ∧ Sb l (p + 1) a := by
  obtain ⟨x, y, e, hx⟩ := h
  constructor
  · rw [e, List.getElem?_append_right (by omega), show p - x.length = 0 by omega]
    rfl
  · refine ⟨x ++ [(o, f)], y, ?_, by rw [List.length_append]; simp [hx]⟩
    rw [e, rws_U]
    simp
theorem Sb.B (h : Sb l p (tB o a b)) : l[p]? = some (o, .null) ∧ Sb l (p + 1) a ∧ Sb l (p + 1 + sz a) b := by
  obtain ⟨x, y, e, hx⟩ := h
  refine ⟨?_, ?_, ?_⟩
  · rw [e, List.getElem?_append_right (by omega), show p - x.length = 0 by omega]
    rfl
  · refine ⟨x ++ [(o, .null)], rws b ++ y, ?_, by rw [List.length_append]; simp [hx]⟩
    rw [e, rws_B]
    simp
  · refine ⟨x ++ [(o, .null)] ++ rws a, y, ?_, by simp only [List.length_append, List.length_cons, List.length_nil, hx, sz]⟩
    rw [e, rws_B]
    simp
theorem Sb.C (h : Sb l p (tC m a b)) : l[p]? = some (9, .null) ∧ Sb l (p + 1) m ∧ Sb l (p + 1 + sz m) a ∧ Sb l (p + 1 + sz m + sz a) b := by
  obtain ⟨x, y, e, hx⟩ := h
  refine ⟨?_, ?_, ?_, ?_⟩
  · rw [e, List.getElem?_append_right (by omega), show p - x.length = 0 by omega]
    rfl
  · refine ⟨x ++ [(9, .null)], rws a ++ rws b ++ y, ?_, by rw [List.length_append]; simp [hx]⟩
    rw [e, rws_C]
    simp
  · refine ⟨x ++ [(9, .null)] ++ rws m, rws b ++ y, ?_, by simp only [List.length_append, List.length_cons, List.length_nil, hx, sz]⟩
    rw [e, rws_C]
    simp
  · refine ⟨x ++ [(9, .null)] ++ rws m ++ rws a, y, ?_, by simp only [List.length_append, List.length_cons, List.length_nil, hx, sz]⟩
    rw [e, rws_C]
    simp
theorem Sb.self : Sb (rws t) 0 t := ⟨[], [], by simp, rfl⟩
end SB
/-- frames in which the five changing references may change too -/
def Rr (a k : Nat) : Prop := (a = 40 ∧ k = 2) ∨ (a = 53 ∧ (k = 1 ∨ k = 2 ∨ k = 3 ∨ k = 4))
def Fq (S : Nat → Nat → Prop) (M M1 : Mem) : Prop := M1.1 = M.1 ∧ M1.2.1 = M.2.1 ∧ (∀ a k, ¬ Rr a k → M1.2.2.2.2 a k = M.2.2.2.2 a k) ∧ ∀ a k, ¬ S a k → M1.2.2.1 a k = M.2.2.1 a k ∧ M1.2.2.2.1 a k = M.2.2.2.1 a k
theorem RF_nr : ∀ q, q ∈ RF → ¬ Rr q.1 q.2.1 := by
  unfold Rr
  decide +kernel
section FQ
variable {S T : Nat → Nat → Prop} {M M1 M2 : Mem}
theorem Fr.q (h : Fr S M M1) : Fq S M M1 := ⟨h.1, h.2.1, fun a k _ => by rw [h.2.2.1], h.2.2.2⟩
theorem Fq.refl : Fq S M M := ⟨rfl, rfl, fun _ _ _ => rfl, fun _ _ _ => ⟨rfl, rfl⟩⟩
theorem Fq.trans (h : Fq S M M1) (k : Fq S M1 M2) : Fq S M M2 := ⟨k.1.trans h.1, k.2.1.trans h.2.1, fun a i ha => (k.2.2.1 a i ha).trans (h.2.2.1 a i ha), fun a i ha => ⟨(k.2.2.2 a i ha).1.trans (h.2.2.2 a i ha).1, (k.2.2.2 a i ha).2.trans (h.2.2.2 a i ha).2⟩⟩
theorem Fq.mono (h : Fq S M M1) (hs : ∀ a k, S a k → T a k) : Fq T M M1 := ⟨h.1, h.2.1, h.2.2.1, fun a k ha => h.2.2.2 a k (fun q => ha (hs a k q))⟩
theorem Fq.wI (h : Fq S M M1) {a k : Nat} (ha : S a k) (x : Int32) : Fq S M (wI M1 a k x) := ⟨h.1, h.2.1, h.2.2.1, fun b j hb => ⟨by
  have hn : ¬ (b = a ∧ j = k) := fun q => hb (by rw [q.1, q.2]; exact ha)
  rw [← (h.2.2.2 b j hb).1]
  exact if_neg hn, (h.2.2.2 b j hb).2⟩⟩
theorem Fq.wJ (h : Fq S M M1) {a k : Nat} (ha : S a k) (x : Int64) : Fq S M (wJ M1 a k x) := ⟨h.1, h.2.1, h.2.2.1, fun b j hb => ⟨(h.2.2.2 b j hb).1, by
  have hn : ¬ (b = a ∧ j = k) := fun q => hb (by rw [q.1, q.2]; exact ha)
  rw [← (h.2.2.2 b j hb).2]
  exact if_neg hn⟩⟩
theorem Fq.wR (h : Fq S M M1) {a k : Nat} (ha : Rr a k) (x : Option Nat) : Fq S M (wR M1 a k x) := ⟨h.1, h.2.1, fun b j hb => by
  have hn : ¬ (b = a ∧ j = k) := fun q => hb (by rw [q.1, q.2]; exact ha)
  rw [← h.2.2.1 b j hb]
  exact if_neg hn, h.2.2.2⟩
theorem Fq.Wd (h : Fq S M M1) (hW : Wd M) : Wd M1 := ⟨h.1.trans hW.1, fun a ha => by rw [h.2.1]; exact hW.2.1 a ha, fun q hq => by rw [h.2.2.1 _ _ (RF_nr q hq)]; exact hW.2.2 q hq⟩
theorem Fq.int (h : Fq S M M1) {a k : Nat} (ha : ¬ S a k) : M1.2.2.1 a k = M.2.2.1 a k := (h.2.2.2 a k ha).1
theorem Fq.lng (h : Fq S M M1) {a k : Nat} (ha : ¬ S a k) : M1.2.2.2.1 a k = M.2.2.2.1 a k := (h.2.2.2 a k ha).2
theorem Fq.ints (h : Fq S M M1) {a : Nat} (ha : ∀ k, ¬ S a k) : M1.2.2.1 a = M.2.2.1 a := funext fun k => h.int (ha k)
theorem Fq.lngs (h : Fq S M M1) {a : Nat} (ha : ∀ k, ¬ S a k) : M1.2.2.2.1 a = M.2.2.2.1 a := funext fun k => h.lng (ha k)
end FQ
