/-! THE REFERENCE's SEARCH: rows in memory -/
noncomputable def adl (l : List Fm) (x : Fm) : List Fm := itc (x ∈ l) l (l ++ [x])
theorem adl_mem {l : List Fm} {x z : Fm} : z ∈ adl l x ↔ z ∈ l ∨ z = x := by
  unfold adl
  rcases Classical.em (x ∈ l) with h | h
  · rw [itc_pos h]
    exact ⟨Or.inl, fun q => q.elim id (fun e => by rw [e]; exact h)⟩
  · rw [itc_neg h, List.mem_append, List.mem_singleton]
theorem adl_nd {l : List Fm} {x : Fm} (h : l.Nodup) : (adl l x).Nodup := by
  unfold adl
  rcases Classical.em (x ∈ l) with q | q
  · rw [itc_pos q]; exact h
  · rw [itc_neg q]
    refine List.nodup_append.mpr ⟨h, by simp, fun a ha b hb e => ?_⟩
    rw [List.mem_singleton.mp hb] at e
    exact q (e ▸ ha)
theorem adl_wS {l : List Fm} {x : Fm} : wS (adl l x) ≤ wS l + wM x := by
  unfold adl
  rcases Classical.em (x ∈ l) with q | q
  · rw [itc_pos q]; omega
  · rw [itc_neg q, wS_app]; show wS l + (wM x + 0) ≤ _; omega
theorem ers_wS : ∀ (l : List Fm) (j : Nat) (h : j < l.length), wS (l.eraseIdx j) + wM l[j] = wS l := by
  intro l
  induction l with
  | nil => intro j h; exact absurd h (Nat.not_lt_zero _)
  | cons x l ih =>
    intro j h
    cases j with
    | zero => show wS l + wM x = wM x + wS l; omega
    | succ j =>
      have hj : j < l.length := by simpa using h
      have := ih j hj
      show wM x + wS (l.eraseIdx j) + wM l[j] = wM x + wS l
      omega
theorem ers_mem : ∀ {l : List Fm} {j : Nat} (h : j < l.length), l.Nodup → ∀ z, z ∈ l.eraseIdx j ↔ z ∈ l ∧ z ≠ l[j] := by
  intro l
  induction l with
  | nil => intro j h; exact absurd h (Nat.not_lt_zero _)
  | cons x l ih =>
    intro j h hn z
    obtain ⟨hx, hl⟩ := List.nodup_cons.mp hn
    cases j with
    | zero =>
      show z ∈ l ↔ z ∈ x :: l ∧ z ≠ x
      rw [List.mem_cons]
      constructor
      · intro q
        exact ⟨Or.inr q, fun e => hx (e ▸ q)⟩
      · intro q
        exact q.1.resolve_left q.2
    | succ j =>
      have hj : j < l.length := by simpa using h
      have i := ih (j := j) hj hl z
      show z ∈ x :: l.eraseIdx j ↔ z ∈ x :: l ∧ z ≠ l[j]
      rw [List.mem_cons, List.mem_cons, i]
      constructor
      · rintro (q | q)
        · refine ⟨Or.inl q, fun e => hx ?_⟩
          rw [← q, e]
          exact List.getElem_mem _
        · exact ⟨Or.inr q.1, q.2⟩
      · rintro ⟨q | q, n⟩
        · exact Or.inl q
        · exact Or.inr ⟨q, n⟩
theorem ers_nd {l : List Fm} {j : Nat} (h : l.Nodup) : (l.eraseIdx j).Nodup := List.Sublist.nodup (List.eraseIdx_sublist l j) h
/-- what is still to be copied -/
def rsj (l : List Fm) (j i : Nat) : List Fm := if i ≤ j then (l.drop i).eraseIdx (j - i) else l.drop i
theorem rsj_cons {l : List Fm} {j i : Nat} (h : i < l.length) (hne : i ≠ j) : rsj l j i = l[i] :: rsj l j (i + 1) := by
  unfold rsj
  by_cases q : i ≤ j
  · rw [if_pos q, if_pos (by omega), List.drop_eq_getElem_cons h, show j - i = (j - (i + 1)) + 1 by omega, List.eraseIdx_cons_succ]
  · rw [if_neg q, if_neg (by omega), List.drop_eq_getElem_cons h]
theorem rsj_eq {l : List Fm} {j : Nat} (h : j < l.length) : rsj l j j = rsj l j (j + 1) := by
  unfold rsj
  rw [if_pos (Nat.le_refl _), if_neg (by omega), List.drop_eq_getElem_cons h, Nat.sub_self, List.eraseIdx_cons_zero]
theorem rsj_end {l : List Fm} {j : Nat} : rsj l j l.length = [] := by
  unfold rsj
  rw [List.drop_length]
  split
  · rfl
  · rfl
theorem rsj_0 {l : List Fm} {j : Nat} : rsj l j 0 = l.eraseIdx j := by
  unfold rsj
  rw [if_pos (Nat.zero_le _)]
  rfl
def S125 (q a k : Nat) : Prop := a = 125 ∧ q ≤ k
/-- a row of formulas -/
def HdR (M : Mem) (c p : Nat) (l : List Fm) : Prop := ∀ i (h : i < l.length), ∃ v, v < c ∧ M.2.2.1 125 (p + i) = nI v ∧ dR M v = l[i]
section HD2
variable {M M1 : Mem} {c c1 p q v n : Nat} {l : List Fm}
theorem HdR.mv (h : HdR M c p l) (hi : ∀ i, i < l.length → M1.2.2.1 125 (p + i) = M.2.2.1 125 (p + i)) (hd : ∀ i, i < c → dR M1 i = dR M i) (hc : c ≤ c1) : HdR M1 c1 p l := fun i hl => by
  obtain ⟨v, v1, v2, v3⟩ := h i hl
  exact ⟨v, by omega, (hi i hl).trans v2, (hd v v1).trans v3⟩
theorem d125 (F : Fr (S125 q) M M1) : dR M1 = dR M := dR_fq F.q (fun k z => by have := z.1; omega) (fun k z => by have := z.1; omega) (fun k z => by have := z.1; omega)
theorem t125 (F : Fr (S125 q) M M1) (hT : TabR M c) : TabR M1 c := (tabR_mv hT F (fun z => by have := z.1; omega) (fun a k z => by have := z.1; omega)).1
theorem HdR.fr (h : HdR M c p l) (F : Fr (S125 q) M M1) (hq : p + l.length ≤ q) : HdR M1 c p l := h.mv (fun i hi => F.int (fun z => by have := z.2; omega)) (fun i _ => by rw [d125 F]) (Nat.le_refl _)
theorem HdR.app (h : HdR M c p l) {x : Fm} (hv : v < c) (h1 : M.2.2.1 125 (p + l.length) = nI v) (h2 : dR M v = x) : HdR M c p (l ++ [x]) := fun i hi => by
  by_cases e : i < l.length
  · rw [List.getElem_append_left e]
    exact h i e
  · have hi' : i < l.length + 1 := by simpa using hi
    have e : i = l.length := by omega
    subst e
    refine ⟨v, hv, h1, ?_⟩
    rw [h2]
    simp
theorem f125 (hW : Wd M) {i : Nat} (hi : i < 60000) : fA M 125 1 (nI i) := fA_R hW (by omega) (s_125 hW) hi (by omega)
theorem ih_3 (hW : Wd M) (hT : TabR M c) (h : HdR M c p l) (hv : v < c) (hp : p + l.length ≤ 60000) : ∀ z i, i + z = l.length → lp (st_X11_isHad n) (3, [.ref 89, .int (nI (p + l.length)), .int (nI v), .int (nI (p + i))], M) = some (itc (dR M v ∈ l.drop i) 1 0, M) := by
  have hc := hT.2.1
  intro z
  induction z with
  | zero =>
    intro i hi
    refine (ge_X11_isHad_3 n 89 (nI (p + l.length)) (nI v) (nI (p + i)) M).trans ?_
    unfold T_X11_isHad_3
    have hle : (nI (p + l.length) ≤ nI (p + i)) = True := eq_true (by rw [nI_le_ (by omega) (by omega)]; omega)
    simp only [hle, ↓reduceIte]
    rw [List.drop_of_length_le (by omega), itc_neg (by simp)]
  | succ z ih =>
    intro i hi
    obtain ⟨u, u1, u2, u3⟩ := h i (by omega)
    refine (ge_X11_isHad_3 n 89 (nI (p + l.length)) (nI v) (nI (p + i)) M).trans ?_
    unfold T_X11_isHad_3
    have hle : (nI (p + l.length) ≤ nI (p + i)) = False := eq_false (by rw [nI_le_ (by omega) (by omega)]; omega)
    rw [List.drop_eq_getElem_cons (show i < l.length by omega)]
    by_cases e : u = v
    · have q : (nI u = nI v) = True := eq_true (by rw [e])
      simp (disch := omega) only [hle, ↓reduceIte, ↓gd_pos (fO_R hW), ↓bnd_of (r_89_60 hW), ↓gd_pos (f125 hW (show p + i < 60000 by omega)), nI_z, u2, q]
      rw [itc_pos (by rw [← u3, e]; exact List.mem_cons_self)]
    · have q : (nI u = nI v) = False := eq_false (fun z => e ((nI_eq (by omega) (by omega)).mp z))
      simp (disch := omega) only [hle, ↓reduceIte, ↓gd_pos (fO_R hW), ↓bnd_of (r_89_60 hW), ↓gd_pos (f125 hW (show p + i < 60000 by omega)), nI_z, u2, q, nI_1]
      have y := ih (i + 1) (by omega)
      rw [show p + i + 1 = p + (i + 1) by omega, y]
      have ne : dR M v ≠ l[i] := fun z => e (hT.inj u1 hv (u3.trans z.symm))
      rcases Classical.em (dR M v ∈ l.drop (i + 1)) with g | g
      · rw [itc_pos g, itc_pos (List.mem_cons_of_mem _ g)]
      · rw [itc_neg g, itc_neg (fun z => (List.mem_cons.mp z).elim ne g)]
theorem rx_isHad (hW : Wd M) (hT : TabR M c) (h : HdR M c p l) (hv : v < c) (hp : p + l.length ≤ 60000) (n : Nat) : f_X11_isHad n 89 (nI p) (nI (p + l.length)) (nI v) M = some (itc (dR M v ∈ l) 1 0, M) := (ge_X11_isHad_0 n 89 (nI p) (nI (p + l.length)) (nI v) M).trans (ih_3 hW hT h hv hp l.length 0 (by omega))
theorem rx_withHad (hW : Wd M) (hT : TabR M c) (h : HdR M c p l) (hv : v < c) (hp : p + l.length < 60000) (n : Nat) : ∃ M1, f_X11_withHad (n + 1) 89 (nI p) (nI (p + l.length)) (nI v) M = some (nI (p + (adl l (dR M v)).length), M1) ∧ Fr (S125 (p + l.length)) M M1 ∧ HdR M1 c p (adl l (dR M v)) := by
  have y := rx_isHad hW hT h hv (by omega) n
  rcases Classical.em (dR M v ∈ l) with g | g
  · rw [itc_pos g] at y
    refine ⟨M, ?_, Fr.refl, ?_⟩
    · show T_X11_withHad_0 (fun v M => some (v, M)) none (n + 1) 89 (nI p) (nI (p + l.length)) (nI v) M = _
      unfold T_X11_withHad_0
      simp only [↓gd_pos (fO_R hW), ↓bnd2_of (show cal (n + 1) (fun zz => f_X11_isHad zz 89 (nI p) (nI (p + l.length)) (nI v) M) = _ from y), show ((1 : Int32) = 0) = False from eq_false (by decide), ↓reduceIte]
      unfold adl
      rw [itc_pos g]
    · unfold adl
      rw [itc_pos g]
      exact h
  · rw [itc_neg g] at y
    have F : Fr (S125 (p + l.length)) M (wI M 125 (p + l.length) (nI v)) := Fr.refl.wI ⟨rfl, Nat.le_refl _⟩ _
    refine ⟨wI M 125 (p + l.length) (nI v), ?_, F, ?_⟩
    · show T_X11_withHad_0 (fun v M => some (v, M)) none (n + 1) 89 (nI p) (nI (p + l.length)) (nI v) M = _
      unfold T_X11_withHad_0
      simp (disch := omega) only [↓gd_pos (fO_R hW), ↓bnd2_of (show cal (n + 1) (fun zz => f_X11_isHad zz 89 (nI p) (nI (p + l.length)) (nI v) M) = _ from y), ↓reduceIte, ↓bnd_of (r_89_60 hW), ↓gd_pos (f125 hW hp), nI_z, nI_1]
      unfold adl
      rw [itc_neg g, List.length_append]
      rfl
    · unfold adl
      rw [itc_neg g]
      exact HdR.app (h.fr F (Nat.le_refl _)) hv (by simp [up2_if]) (by rw [d125 F])
theorem ch_6 (hW0 : Wd M) (h0 : HdR M c p l) {but : Int32} {j : Nat} (hb : ∀ i, i < l.length → (nI (p + i) = but ↔ i = j)) (hp : p + l.length + l.length ≤ 60000) : ∀ z i, i + z = l.length → ∀ (M1 : Mem) (acc : List Fm), Fr (S125 (p + l.length)) M M1 → HdR M1 c (p + l.length) acc → acc.length ≤ i → ∃ M2, lp (st_X11_copiesHad n) (6, [.ref 89, .int (nI (p + l.length)), .int but, .int (nI (p + l.length + acc.length)), .int (nI (p + i))], M1) = some (nI (p + l.length + (acc ++ rsj l j i).length), M2) ∧ Fr (S125 (p + l.length)) M M2 ∧ HdR M2 c (p + l.length) (acc ++ rsj l j i) := by
  intro z
  induction z with
  | zero =>
    intro i hi M1 acc F1 H1 ha
    refine ⟨M1, ?_, F1, ?_⟩
    · refine (ge_X11_copiesHad_6 n 89 (nI (p + l.length)) but (nI (p + l.length + acc.length)) (nI (p + i)) M1).trans ?_
      unfold T_X11_copiesHad_6
      have hle : (nI (p + l.length) ≤ nI (p + i)) = True := eq_true (by rw [nI_le_ (by omega) (by omega)]; omega)
      simp only [hle, ↓reduceIte]
      rw [show i = l.length by omega, rsj_end, List.append_nil]
    · rw [show i = l.length by omega, rsj_end, List.append_nil]
      exact H1
  | succ z ih =>
    intro i hi M1 acc F1 H1 ha
    have hW := F1.Wd hW0
    have hle : (nI (p + l.length) ≤ nI (p + i)) = False := eq_false (by rw [nI_le_ (by omega) (by omega)]; omega)
    by_cases e : i = j
    · have q : (nI (p + i) = but) = True := eq_true ((hb i (by omega)).mpr e)
      obtain ⟨M2, y, F2, H2⟩ := ih (i + 1) (by omega) M1 acc F1 H1 (by omega)
      subst e
      rw [rsj_eq (show i < l.length by omega)]
      refine ⟨M2, ?_, F2, H2⟩
      rw [← y]
      refine (ge_X11_copiesHad_6 n 89 (nI (p + l.length)) but (nI (p + l.length + acc.length)) (nI (p + i)) M1).trans ?_
      unfold T_X11_copiesHad_6
      simp (disch := omega) only [hle, q, ↓reduceIte, nI_1]
      rfl
    · have q : (nI (p + i) = but) = False := eq_false (fun z => e ((hb i (by omega)).mp z))
      obtain ⟨u, u1, u2, u3⟩ := h0 i (by omega)
      have u2' : M1.2.2.1 125 (p + i) = nI u := (F1.int (fun z => by have := z.2; omega)).trans u2
      have Fx : Fr (S125 (p + l.length + acc.length)) M1 (wI M1 125 (p + l.length + acc.length) (nI u)) := Fr.refl.wI ⟨rfl, Nat.le_refl _⟩ _
      have F2 : Fr (S125 (p + l.length)) M (wI M1 125 (p + l.length + acc.length) (nI u)) := F1.trans (Fx.mono (fun a k z => ⟨z.1, by have := z.2; omega⟩))
      have Hx : HdR (wI M1 125 (p + l.length + acc.length) (nI u)) c (p + l.length) (acc ++ [l[i]]) := HdR.app (H1.fr Fx (Nat.le_refl _)) u1 (by simp [up2_if]) (by rw [d125 F2]; exact u3)
      obtain ⟨M2, y, F3, H3⟩ := ih (i + 1) (by omega) _ _ F2 Hx (by rw [List.length_append]; simp; omega)
      have el : (acc ++ [l[i]]) ++ rsj l j (i + 1) = acc ++ rsj l j i := by rw [rsj_cons (show i < l.length by omega) e, List.append_assoc]; rfl
      rw [el] at y H3
      refine ⟨M2, ?_, F3, H3⟩
      rw [← y]
      refine (ge_X11_copiesHad_6 n 89 (nI (p + l.length)) but (nI (p + l.length + acc.length)) (nI (p + i)) M1).trans ?_
      unfold T_X11_copiesHad_6
      simp (disch := omega) only [hle, q, ↓reduceIte, ↓gd_pos (fO_R hW), ↓bnd_of (r_89_60 hW), ↓gd_pos (f125 hW (show p + i < 60000 by omega)), ↓gd_pos (f125 hW (show p + l.length + acc.length < 60000 by omega)), nI_z, u2', nI_1]
      rw [List.length_append]
      rfl
theorem rx_copiesHad (hW : Wd M) (h : HdR M c p l) {but : Int32} {j : Nat} (hb : ∀ i, i < l.length → (nI (p + i) = but ↔ i = j)) (hp : p + l.length + l.length ≤ 60000) (n : Nat) : ∃ M2, f_X11_copiesHad n 89 (nI p) (nI (p + l.length)) but M = some (nI (p + l.length + (l.eraseIdx j).length), M2) ∧ Fr (S125 (p + l.length)) M M2 ∧ HdR M2 c (p + l.length) (l.eraseIdx j) := by
  obtain ⟨M2, y, F, H⟩ := ch_6 (n := n) hW h hb hp l.length 0 (by omega) M [] Fr.refl (fun i hi => absurd hi (Nat.not_lt_zero _)) (Nat.le_refl _)
  rw [rsj_0, List.nil_append] at y H
  exact ⟨M2, (ge_X11_copiesHad_0 n 89 (nI p) (nI (p + l.length)) but M).trans y, F, H⟩
end HD2
