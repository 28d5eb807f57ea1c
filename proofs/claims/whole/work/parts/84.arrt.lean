/-! ARRANGE in the class: the forward way along the tree -/
/-- what is known of all nodes of a term -/
def Ly (M : Mem) : Tm → Nat → Nat → Int32 → Nat → Nat → (Nat → Nat) → Prop
  | .index j, p, d, pa, r, n, A => at2 M p d pa r n ∧ M.2.2.1 46 p = nI (A j)
  | .elem (.rem (.index o) _) a, p, d, pa, r, n, A => at2 M p d pa r n ∧ Ly M a (p + 1) (d + amN o 0) (nI p) 0 (n + 1) (if o = 2 then ups A d (p + 1) else A)
  | .div (.rem (.index _) a) b, p, d, pa, r, n, A => at2 M p d pa r n ∧ Ly M a (p + 1) d (nI p) 0 (n + 1) A ∧ Ly M b (p + 1 + sz a) d (nI p) 1 (n + 1) A
  | .sub (.rem m a) b, p, d, pa, r, n, A => at2 M p d pa r n ∧ Ly M m (p + 1) d (nI p) 0 (n + 1) A ∧ Ly M a (p + 1 + sz m) (d + 1) (nI p) 1 (n + 1) (ups A d (p + 1 + sz m)) ∧ Ly M b (p + 1 + sz m + sz a) (d + 1) (nI p) 2 (n + 1) (ups A d (p + 1 + sz m + sz a))
  | _, p, d, pa, r, n, _ => at2 M p d pa r n
def SAr (p e lo a j : Nat) : Prop := ((a = 42 ∨ a = 43 ∨ a = 44 ∨ a = 45) ∧ p < j ∧ j < e) ∨ (a = 46 ∧ p ≤ j ∧ j < e) ∨ (a = 47 ∧ lo ≤ j) ∨ SWk a j
theorem SAr.lo {p e lo a j : Nat} (h : SAr p e lo a j) : 40 ≤ a ∧ a ≤ 49 := by
  unfold SAr SWk at h
  omega
theorem Ly.congr {M M1 : Mem} : ∀ t, isT t → ∀ {p d : Nat} {pa : Int32} {r n : Nat} {A : Nat → Nat}, (∀ a i, 42 ≤ a → a ≤ 46 → p ≤ i → i < p + sz t → M1.2.2.1 a i = M.2.2.1 a i) → Ly M t p d pa r n A → Ly M1 t p d pa r n A := by
  have hat : ∀ {p d : Nat} {pa : Int32} {r n z : Nat}, 0 < z → (∀ a i, 42 ≤ a → a ≤ 46 → p ≤ i → i < p + z → M1.2.2.1 a i = M.2.2.1 a i) → at2 M p d pa r n → at2 M1 p d pa r n := fun hz e h => ⟨(e 42 _ (by omega) (by omega) (Nat.le_refl _) (by omega)).trans h.1, (e 43 _ (by omega) (by omega) (Nat.le_refl _) (by omega)).trans h.2.1, (e 44 _ (by omega) (by omega) (Nat.le_refl _) (by omega)).trans h.2.2.1, (e 45 _ (by omega) (by omega) (Nat.le_refl _) (by omega)).trans h.2.2.2⟩
  apply tm_ind
  · intro k p d pa r n A e h
    rw [sz_L] at e
    exact ⟨hat Nat.one_pos e h.1, (e 46 p (by omega) (by omega) (Nat.le_refl _) (by omega)).trans h.2⟩
  · intro k p d pa r n A e h
    rw [sz_H] at e
    exact hat Nat.one_pos e h
  · intro o f a _ _ ih p d pa r n A e h
    rw [sz_U] at e
    exact ⟨hat (by omega) e h.1, ih (fun a i x y z w => e a i x y (by omega) (by omega)) h.2⟩
  · intro o a b _ _ _ ia ib p d pa r n A e h
    rw [sz_B] at e
    exact ⟨hat (by omega) e h.1, ia (fun a i x y z w => e a i x y (by omega) (by omega)) h.2.1, ib (fun a i x y z w => e a i x y (by omega) (by omega)) h.2.2⟩
  · intro m a b _ _ _ im ia ib p d pa r n A e h
    rw [sz_C] at e
    exact ⟨hat (by omega) e h.1, im (fun a i x y z w => e a i x y (by omega) (by omega)) h.2.1, ia (fun a i x y z w => e a i x y (by omega) (by omega)) h.2.2.1, ib (fun a i x y z w => e a i x y (by omega) (by omega)) h.2.2.2⟩
section ART
variable {tr c : Nat} {l : List (Nat × Tm)}
/-- what stands when the forward way comes to a node -/
def ArI (M : Mem) (tr c : Nat) (l : List (Nat × Tm)) (t : Tm) (p d : Nat) (pa : Int32) (r n am : Nat) (A : Nat → Nat) (u : List Nat) (W : List Int32) : Prop := LtC M tr c l ∧ Sb l p t ∧ Ed M t p ∧ at2 M p d pa r n ∧ IaC l pa r am ∧ scp t d ∧ d ≤ p ∧ n ≤ p + 1 ∧ (am = 1 → 1 ≤ d ∧ A (d - 1) = p) ∧ (∀ j, j < d - am → M.2.2.1 47 j = nI (A j)) ∧ UpC M p u ∧ wkC M W ∧ W.length + (wk t p am).length + u.length ≤ 400
def ArO (k : Nat) (M : Mem) (t : Tm) (p d : Nat) (pa : Int32) (r n am : Nat) (A : Nat → Nat) (u : List Nat) (W : List Int32) : Prop := ∃ M1, lp (st_X3_arrange (k + 3)) (108, [.ref 40, .int (nI p)], M) = lp (st_X3_arrange (k + 3)) (108, [.ref 40, .int (nI (p + sz t))], M1) ∧ Fr (SAr p (p + sz t) (d - am)) M M1 ∧ Ly M1 t p d pa r n A ∧ wkC M1 (W ++ (wk t p am ++ u.map nI))
theorem ar_leaf (k : Nat) {t : Tm} {p d : Nat} {pa : Int32} {r n am : Nat} {A : Nat → Nat} {u : List Nat} {W : List Int32} {M : Mem} (hp : p < l.length) (ho : opl l p = 1) (hN : NmOk l p) (hs : sz t = 1) (hwk : wk t p am = amL am p ++ [nI p]) (h : ArI M tr c l t p d pa r n am A u W) : ∃ M1, lp (st_X3_arrange (k + 3)) (108, [.ref 40, .int (nI p)], M) = lp (st_X3_arrange (k + 3)) (108, [.ref 40, .int (nI (p + sz t))], M1) ∧ Fr (SAr p (p + sz t) (d - am)) M M1 ∧ at2 M1 p d pa r n ∧ (∀ j, lbl l p = .index j → M1.2.2.1 46 p = M1.2.2.1 47 j) ∧ (∀ j, j < d → M1.2.2.1 47 j = nI (A j)) ∧ wkC M1 (W ++ (wk t p am ++ u.map nI)) := by
  obtain ⟨hL, hS, hE, ha, hI, hc, hd, hn, h1, hA, hU, hw, hl4⟩ := h
  have h2 := hL.2.2.2.2.1
  rw [hwk, List.length_append] at hl4
  simp only [List.length_cons, List.length_nil] at hl4
  have hle := hI.le
  have e1 : f_X3_placeChildren (k + 2) 40 (nI p) M = some ((), M) := (pc_0 hL k hp).trans (pc_end (k + 1) (hL.2.2.2.2.2.1.at_ hp) (by rw [ho]; rfl))
  obtain ⟨M2, e2, F2, w2, b2, n2⟩ := c_bind hL k hp ha hI (by omega) (fun q => (h1 q).1) hN hw (by omega)
  have L2 := hL.fr F2 (fun a j q => by unfold SBd SWk at q; omega)
  have U2 : UpC M2 p u := hU.mv F2 (fun j _ => by unfold SBd SWk; omega)
  obtain ⟨M3, e3, F3, w3⟩ := c_walkOut (k + 1) L2.1 U2 w2 (by rw [List.length_append]; omega) (by omega)
  rw [hs]
  refine ⟨M3, nd_lf hL k hp e1 hL.1 e2 L2 (by rw [ho]; rfl) e3, (F2.mono (fun a j q => ?_)).trans (F3.mono (fun a j q => Or.inr (Or.inr (Or.inr q)))), ?_, fun j e => ?_, fun j hj => ?_, ?_⟩
  · rcases q with q | q | q
    · exact Or.inr (Or.inl ⟨q.1, by omega, by omega⟩)
    · exact Or.inr (Or.inr (Or.inl ⟨q.2.1, by omega⟩))
    · exact Or.inr (Or.inr (Or.inr q))
  · exact (ha.mv F2 (by unfold SBd SWk; omega) (by unfold SBd SWk; omega) (by unfold SBd SWk; omega) (by unfold SBd SWk; omega)).mv F3 (by unfold SWk; omega) (by unfold SWk; omega) (by unfold SWk; omega) (by unfold SWk; omega)
  · rw [F3.int (by unfold SWk; omega), F3.int (by unfold SWk; omega)]
    exact n2 j ho e
  · rw [F3.int (by unfold SWk; omega)]
    by_cases hj2 : j < d - am
    · rw [F2.int (by unfold SBd SWk; omega)]
      exact hA j hj2
    · have ham : am = 1 := by omega
      have hjd : j = d - 1 := by omega
      rw [hjd, b2 ham, (h1 ham).2]
  · rw [hwk]
    have e : W ++ (amL am p ++ [nI p] ++ u.map nI) = W ++ amL am p ++ nI p :: u.map nI := by simp
    rw [e]
    exact w3
/-- a node that is no name: it is behind us, its children are placed -/
theorem ar_node (k : Nat) {t : Tm} {p d : Nat} {pa : Int32} {r n am : Nat} {A : Nat → Nat} {u : List Nat} {W : List Int32} {M M1 : Mem} {e : Nat} (hp : p < l.length) (ho : opl l p ≠ 1) (h : ArI M tr c l t p d pa r n am A u W) (hlen : 1 ≤ (wk t p am).length) (hlw : (amL am p).length + 1 ≤ (wk t p am).length) (e1 : f_X3_placeChildren (k + 2) 40 (nI p) M = some ((), M1)) (F1 : Fr (fun a j => (a = 42 ∨ a = 43 ∨ a = 44 ∨ a = 45) ∧ p < j ∧ j < e) M M1) : ∃ M2, lp (st_X3_arrange (k + 3)) (108, [.ref 40, .int (nI p)], M) = lp (st_X3_arrange (k + 3)) (108, [.ref 40, .int (nI (p + 1))], M2) ∧ Fr (SBd p d am) M1 M2 ∧ LtC M2 tr c l ∧ at2 M2 p d pa r n ∧ (∀ j, j < d → M2.2.2.1 47 j = nI (A j)) ∧ UpC M2 p u ∧ wkC M2 (W ++ amL am p) := by
  obtain ⟨hL, hS, hE, ha, hI, hc, hd, hn, h1, hA, hU, hw, hl4⟩ := h
  have h2 := hL.2.2.2.2.1
  have hle := hI.le
  have L1 := hL.fr F1 (fun a j q => by omega)
  have ha1 := ha.mv F1 (by omega) (by omega) (by omega) (by omega)
  have hw1 := hw.mv F1 (by omega) (by omega)
  obtain ⟨M2, e2, F2, w2, b2, n2⟩ := c_bind L1 k hp ha1 hI (by omega) (fun q => (h1 q).1) (fun q => (ho q).elim) hw1 (by omega)
  have L2 := L1.fr F2 (fun a j q => by unfold SBd SWk at q; omega)
  have h0 : ar (opl l p) ≠ 0 := by
    unfold ar
    rw [if_neg ho]
    repeat' split
    all_goals omega
  refine ⟨M2, nd_in hL k hp e1 L1.1 e2 L2 h0, F2, L2, ha1.mv F2 (by unfold SBd SWk; omega) (by unfold SBd SWk; omega) (by unfold SBd SWk; omega) (by unfold SBd SWk; omega), fun j hj => ?_, ?_, w2⟩
  · by_cases hj2 : j < d - am
    · rw [F2.int (by unfold SBd SWk; omega), F1.int (by omega)]
      exact hA j hj2
    · have ham : am = 1 := by omega
      have hjd : j = d - 1 := by omega
      rw [hjd, b2 ham, (h1 ham).2]
  · exact (hU.mv F1 (fun j hj => by omega)).mv F2 (fun j _ => by unfold SBd SWk; omega)
end ART
