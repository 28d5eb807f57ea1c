/-! THE REFERENCE's SEARCH: its state, what a call comes to -/
def Gwr (M : Mem) (c q : Nat) (M1 : Mem) (c1 : Nat) : Prop := Fr (fun a k => SR a k ∨ S125 q a k) M M1 ∧ TabR M1 c1 ∧ c ≤ c1 ∧ ∀ i, i < c → dR M1 i = dR M i
def P8 (P : List Fm) (f : Fm) : Prop := f ∈ (Jvm.Term.arg 8) :: P
def HsS (P : List Fm) (c0 : Nat) (M : Mem) (c p : Nat) (l : List Fm) : Prop := Wd M ∧ TabR M c ∧ c0 ≤ c ∧ NewR M c c0 (P8 P) ∧ HdR M c p l ∧ l.Nodup ∧ ∀ f, f ∈ l → Sub (gr f) P
def HsE (e : Option (Int32 × Mem)) (P : List Fm) (c0 : Nat) (M : Mem) (c q : Nat) (l : List Fm) (G : Fm) : Prop := ∃ v M1 c1, e = some (v, M1) ∧ ((v = 1 ∧ EL l G) ∨ (v = 0 ∧ ¬ EL l G)) ∧ Gwr M c q M1 c1 ∧ NewR M1 c1 c0 (P8 P)
/-- the calls that weigh less -/
def HsK (P : List Fm) (c0 n N : Nat) : Prop := ∀ (M : Mem) (c p : Nat) (l : List Fm) (g : Nat), HsS P c0 M c p l → g < c → Sub (ag (dR M g)) P → wS l + wG (dR M g) < N → p + 41 * (wS l + wG (dR M g) + 2) ≤ 60000 → HsE (r_X11_canProve n 0 [.ref 89, .int (nI p), .int (nI (p + l.length)), .int (nI g)] M) P c0 M c (p + l.length) l (dR M g)
theorem nb_ok {v : Int32} {A B : Prop} (h : (v = 1 ∧ A) ∨ (v = 0 ∧ B)) : narrow .boolean (.int v) = .int v := by
  rcases h with ⟨e, -⟩ | ⟨e, -⟩
  · rw [e]; rfl
  · rw [e]; rfl
theorem nd_len {l P : List Fm} (hn : l.Nodup) (h : ∀ f, f ∈ l → f ∈ P) : l.length ≤ P.length := by
  exact List.Nodup.length_le_of_subset hn (fun f hf => h f hf)
section CS3
variable {P : List Fm} {c0 : Nat} {M M1 M2 : Mem} {c c1 c2 p q q1 : Nat} {l l1 : List Fm} {G G1 : Fm} {e e1 : Option (Int32 × Mem)}
theorem new_len {E : List Fm} (hT : TabR M c) (h : NewR M c c0 (fun f => f ∈ E)) : c ≤ c0 + E.length := by
  have ch : ∀ i, ∃ j, c0 + i < c → j < E.length ∧ E[j]? = some (dR M (c0 + i)) := by
    intro i
    by_cases hi : c0 + i < c
    · obtain ⟨j, hj, e⟩ := List.getElem_of_mem (h (c0 + i) (by omega) hi)
      exact ⟨j, fun _ => ⟨hj, by rw [List.getElem?_eq_getElem hj, e]⟩⟩
    · exact ⟨0, fun q => absurd q hi⟩
  obtain ⟨g, hg⟩ := Classical.axiomOfChoice ch
  have := php E.length (c - c0) g (fun i hi => (hg i (by omega)).1) (fun i j hi hj e => by
    have a := (hg i (by omega)).2
    have b := (hg j (by omega)).2
    rw [e, b] at a
    have := hT.inj (by omega) (by omega) (Option.some.inj a)
    omega)
  omega
theorem HsS.len (h : HsS P c0 M c p l) (hP : P.length ≤ 40) : l.length ≤ 40 := Nat.le_trans (nd_len h.2.2.2.2.2.1 (fun f hf => h.2.2.2.2.2.2 f hf f (gr_self f))) hP
theorem HsS.cle (h : HsS P c0 M c p l) (hP : P.length ≤ 40) : c ≤ c0 + 41 := by
  have := new_len (E := (Jvm.Term.arg 8) :: P) h.2.1 h.2.2.2.1
  have e : ((Jvm.Term.arg 8) :: P).length = P.length + 1 := rfl
  omega
theorem Gwr.refl (hT : TabR M c) : Gwr M c q M c := ⟨Fr.refl, hT, Nat.le_refl _, fun _ _ => rfl⟩
theorem Gwr.trans (h : Gwr M c q M1 c1) (k : Gwr M1 c1 q1 M2 c2) (hq : q ≤ q1) : Gwr M c q M2 c2 := ⟨h.1.trans (k.1.mono (fun a i z => z.imp id (fun z => ⟨z.1, by have := z.2; omega⟩))), k.2.1, by have := h.2.2.1; have := k.2.2.1; omega, fun i hi => (k.2.2.2 i (by have := h.2.2.1; omega)).trans (h.2.2.2 i hi)⟩
theorem Gwr.row (F : Fr (S125 q) M M1) (hT : TabR M c) : Gwr M c q M1 c := ⟨F.mono (fun a k z => Or.inr z), t125 F hT, Nat.le_refl _, fun i _ => by rw [d125 F]⟩
theorem Gwr.hd (h : Gwr M c q M1 c1) (hh : HdR M c p l) (hq : p + l.length ≤ q) : HdR M1 c1 p l := hh.mv (fun i hi => h.1.int (fun z => by
  rcases z with z | z
  · unfold SR at z; omega
  · have := z.2; omega)) h.2.2.2 h.2.2.1
theorem NewR.row {CI : Fm → Prop} (F : Fr (S125 q) M M1) (h : NewR M c c0 CI) : NewR M1 c c0 CI := fun i h1 h2 => by rw [d125 F]; exact h i h1 h2
theorem HsS.gw (h : HsS P c0 M c p l) (hg : Gwr M c q M1 c1) (hN : NewR M1 c1 c0 (P8 P)) (hq : p + l.length ≤ q) : HsS P c0 M1 c1 p l := ⟨hg.1.Wd h.1, hg.2.1, by have := h.2.2.1; have := hg.2.2.1; omega, hN, hg.hd h.2.2.2.2.1 hq, h.2.2.2.2.2.1, h.2.2.2.2.2.2⟩
theorem HsE.iff (h : HsE e P c0 M c q l1 G1) (k : EL l G ↔ EL l1 G1) : HsE e P c0 M c q l G := by
  obtain ⟨v, M1, c1, a1, a2, a3⟩ := h
  exact ⟨v, M1, c1, a1, a2.imp (fun z => ⟨z.1, k.mpr z.2⟩) (fun z => ⟨z.1, fun r => z.2 (k.mp r)⟩), a3⟩
theorem HsE.pre (h : HsE e P c0 M1 c1 q1 l G) (k : Gwr M c q M1 c1) (hq : q ≤ q1) : HsE e P c0 M c q l G := by
  obtain ⟨v, M2, c2, a1, a2, a3, a4⟩ := h
  exact ⟨v, M2, c2, a1, a2, k.trans a3 hq, a4⟩
theorem HsE.eq (h : HsE e P c0 M c q l G) (k : e1 = e) : HsE e1 P c0 M c q l G := by rw [k]; exact h
theorem HsE.yes (h : HsS P c0 M c p l) (k : EL l G) : HsE (some (1, M)) P c0 M c q l G := ⟨1, M, c, rfl, Or.inl ⟨rfl, k⟩, Gwr.refl h.2.1, h.2.2.2.1⟩
theorem HsE.no (h : HsS P c0 M c p l) (k : ¬ EL l G) : HsE (some (0, M)) P c0 M c q l G := ⟨0, M, c, rfl, Or.inr ⟨rfl, k⟩, Gwr.refl h.2.1, h.2.2.2.1⟩
/-- a formula is made -/
theorem cp_make (h : HsS P c0 M c p l) (hP : P.length ≤ 40) (hc : c0 + 41 < 16384) {x y z : Int32} {f : Fm} (ho : FOk M c x y z f) (hf : P8 P f) (q n : Nat) : ∃ i c1 M1, f_X11_formula n 89 x y z M = some (nI i, M1) ∧ i < c1 ∧ dR M1 i = f ∧ Gwr M c q M1 c1 ∧ NewR M1 c1 c0 (P8 P) ∧ Fr SR M M1 := by
  have hcc := h.cle hP
  obtain ⟨i, c1, M1, y, h1, h2, h3, h4, h5, h6, h7, h8, -⟩ := r_formula h.1 h.2.1 n ho (Or.inl (by omega))
  refine ⟨i, c1, M1, y, h1, h5, ⟨h7.mono (fun a k z => Or.inl z), h4, h2, h6⟩, fun j j1 j2 => ?_, h7⟩
  by_cases e : j < c
  · rw [h6 j e]
    exact h.2.2.2.1 j j1 e
  · have ej : j = c := by omega
    by_cases ei : i < c
    · have := (h8 ⟨i, ei, (h6 i ei).symm.trans h5⟩).2
      omega
    · rw [ej, show c = i by omega, h5]
      exact hf
/-- a row behind the row -/
theorem HsS.next (h : HsS P c0 M c p l) (hg : Gwr M c q M1 c1) (hN : NewR M1 c1 c0 (P8 P)) (hh : HdR M1 c1 q l1) (hn : l1.Nodup) (hs : ∀ f, f ∈ l1 → f ∈ l ∨ Sub (gr f) P) : HsS P c0 M1 c1 q l1 := ⟨hg.1.Wd h.1, hg.2.1, by have := h.2.2.1; have := hg.2.2.1; omega, hN, hh, hn, fun f hf => (hs f hf).elim (h.2.2.2.2.2.2 f) id⟩
end CS3
section RW3
variable {l : List Fm} {i : Nat} {x y z : Fm}
theorem rw_0 (hi : i < l.length) (hn : l.Nodup) : Rw l l[i] [] (l.eraseIdx i) := fun z => by
  rw [ers_mem hi hn]
  exact ⟨Or.inl, fun q => q.elim id (fun r => absurd r (by simp))⟩
theorem rw_1 (hi : i < l.length) (hn : l.Nodup) : Rw l l[i] [x] (adl (l.eraseIdx i) x) := fun z => by
  rw [adl_mem, ers_mem hi hn, List.mem_singleton]
theorem rw_2 (hi : i < l.length) (hn : l.Nodup) : Rw l l[i] [x, y] (adl (adl (l.eraseIdx i) x) y) := fun z => by
  rw [adl_mem, adl_mem, ers_mem hi hn, List.mem_cons, List.mem_singleton, or_assoc]
end RW3
