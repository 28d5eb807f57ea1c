/-! A TERM's TEXT, as it is to be read -/
def sbg {α β : Type} (x : (Nat × Nat) ⊕ α) (k : α → (Nat × Nat) ⊕ β) : (Nat × Nat) ⊕ β := match x with
  | .inl e => .inl e
  | .inr y => k y
theorem sbg_l {α β : Type} (e : Nat × Nat) (k : α → (Nat × Nat) ⊕ β) : sbg (.inl e) k = .inl e := rfl
theorem sbg_r {α β : Type} (y : α) (k : α → (Nat × Nat) ⊕ β) : sbg (.inr y) k = k y := rfl
theorem sbg_in {α β : Type} {x : (Nat × Nat) ⊕ α} {k : α → (Nat × Nat) ⊕ β} {r : β} (h : sbg x k = .inr r) : ∃ y, x = .inr y ∧ k y = .inr r := by
  cases x with
  | inl e => cases h
  | inr y => exact ⟨y, rfl, h⟩
/-- the last of some names that is one, the first hypothesis of that name -/
def lstI (sc : List Nat) (nm : Nat) : Nat → Option Nat
  | 0 => none
  | z + 1 => if sc.getD z 0 = nm then some z else lstI sc nm z
def fstI (H : List (Nat × Fm)) (nm : Nat) : Nat → Nat → Option Nat
  | 0, _ => none
  | z + 1, j => if (H.getD j (0, .arg 0)).1 = nm then some j else fstI H nm z (j + 1)
def mng (sc : List Nat) (H : List (Nat × Fm)) (nm : Nat) : Option Tm := match lstI sc nm sc.length with
  | some k => some (tL k)
  | none => (match fstI H nm H.length 0 with
    | some k => some (tH k)
    | none => none)
theorem lstI_is (sc : List Nat) (nm : Nat) : ∀ z, (lstI sc nm z = none ∧ ∀ i, i < z → sc.getD i 0 ≠ nm) ∨ ∃ i, i < z ∧ sc.getD i 0 = nm ∧ lstI sc nm z = some i ∧ ∀ j, i < j → j < z → sc.getD j 0 ≠ nm := by
  intro z
  induction z with
  | zero => exact Or.inl ⟨rfl, fun i h => by omega⟩
  | succ z ih =>
    unfold lstI
    by_cases h : sc.getD z 0 = nm
    · rw [if_pos h]
      exact Or.inr ⟨z, by omega, h, rfl, fun j h1 h2 => by omega⟩
    · rw [if_neg h]
      rcases ih with ⟨e, q⟩ | ⟨i, h1, h2, h3, h4⟩
      · refine Or.inl ⟨e, fun i hi => ?_⟩
        by_cases hz : i = z
        · rw [hz]; exact h
        · exact q i (by omega)
      · refine Or.inr ⟨i, by omega, h2, h3, fun j g1 g2 => ?_⟩
        by_cases hz : j = z
        · rw [hz]; exact h
        · exact h4 j g1 (by omega)
theorem fstI_is (H : List (Nat × Fm)) (nm : Nat) : ∀ z j, (fstI H nm z j = none ∧ ∀ i, j ≤ i → i < j + z → (H.getD i (0, .arg 0)).1 ≠ nm) ∨ ∃ i, j ≤ i ∧ i < j + z ∧ (H.getD i (0, .arg 0)).1 = nm ∧ fstI H nm z j = some i ∧ ∀ u, j ≤ u → u < i → (H.getD u (0, .arg 0)).1 ≠ nm := by
  intro z
  induction z with
  | zero => intro j; exact Or.inl ⟨rfl, fun i h1 h2 => by omega⟩
  | succ z ih =>
    intro j
    unfold fstI
    by_cases h : (H.getD j (0, .arg 0)).1 = nm
    · rw [if_pos h]
      exact Or.inr ⟨j, Nat.le_refl _, by omega, h, rfl, fun u h1 h2 => by omega⟩
    · rw [if_neg h]
      rcases ih (j + 1) with ⟨e, q⟩ | ⟨i, h1, h2, h3, h4, h5⟩
      · refine Or.inl ⟨e, fun i g1 g2 => ?_⟩
        by_cases hz : i = j
        · rw [hz]; exact h
        · exact q i (by omega) (by omega)
      · refine Or.inr ⟨i, by omega, by omega, h3, h4, fun u g1 g2 => ?_⟩
        by_cases hz : u = j
        · rw [hz]; exact h
        · exact h5 u (by omega) g2
noncomputable def rdB (b : Nat → Nat) (n p : Nat) (sc : List Nat) : (Nat × Nat) ⊕ (Nat × Nat) := itc (isN b n p) (if 24 ≤ sc.length then .inl (4, tq b n p) else .inr (nmAt b n p, te b n p)) (.inl (1, tq b n p))
abbrev RdR : Type := (Nat × Nat) ⊕ (Tm × List Nat × Nat)
noncomputable def rdK (b : Nat → Nat) (n : Nat) (R : Nat → List Nat → Nat → RdR) (o pl p : Nat) (sc : List Nat) (m : Nat) : RdR :=
  if o = 2 then sbg (rdB b n p sc) (fun u => sbg (scan b n 30 u.2 1) (fun w => sbg (R w.2 (sc ++ [u.1]) m) (fun r => .inr (tU 2 (hdF w.1) r.1, pl :: r.2.1, r.2.2))))
  else if o = 9 then sbg (R p sc m) (fun r => sbg (rdB b n r.2.2 sc) (fun u => sbg (R u.2 (sc ++ [u.1]) (m + r.2.1.length)) (fun s => sbg (rdB b n s.2.2 sc) (fun v => sbg (R v.2 (sc ++ [v.1]) (m + r.2.1.length + s.2.1.length)) (fun t => .inr (tC r.1 s.1 t.1, pl :: (r.2.1 ++ (s.2.1 ++ t.2.1)), t.2.2))))))
  else if o = 3 ∨ o = 4 then sbg (R p sc m) (fun r => sbg (R r.2.2 sc (m + r.2.1.length)) (fun s => .inr (tB o r.1 s.1, pl :: (r.2.1 ++ s.2.1), s.2.2)))
  else if o = 5 ∨ o = 6 then sbg (R p sc m) (fun r => .inr (tU o .null r.1, pl :: r.2.1, r.2.2))
  else sbg (scan b n 30 p 1) (fun w => sbg (R w.2 sc m) (fun r => .inr (tU o (hdF w.1) r.1, pl :: r.2.1, r.2.2)))
def rdN (x : Option Tm) (m q e : Nat) : RdR := match x with
  | none => .inl (3, q)
  | some t => if 120 ≤ m then .inl (4, q) else .inr (t, [q], e)
theorem rdN_n (m q e : Nat) : rdN none m q e = .inl (3, q) := rfl
theorem rdN_s (t : Tm) (m q e : Nat) : rdN (some t) m q e = if 120 ≤ m then .inl (4, q) else .inr (t, [q], e) := rfl
noncomputable def rdT (b : Nat → Nat) (n : Nat) (H : List (Nat × Fm)) : Nat → Nat → List Nat → Nat → RdR
  | 0, p, _, _ => .inl (4, tq b n p)
  | z + 1, p, sc, m => itc (isN b n p) (rdN (mng sc H (nmAt b n p)) m (tq b n p) (te b n p))
    (if 13 ≤ tw b n p ∧ tw b n p ≤ 21 then (if 120 ≤ m then .inl (4, tq b n p) else rdK b n (rdT b n H z) (tw b n p - 11) (tq b n p) (te b n p) sc (m + 1)) else .inl (1, tq b n p))
section RDT
variable {b : Nat → Nat} {n : Nat} {H : List (Nat × Fm)}
theorem rdT_N {z p m : Nat} {sc : List Nat} (h : isN b n p) : rdT b n H (z + 1) p sc m = rdN (mng sc H (nmAt b n p)) m (tq b n p) (te b n p) := itc_pos h
theorem rdT_O {z p m : Nat} {sc : List Nat} (h : ¬ isN b n p) : rdT b n H (z + 1) p sc m = (if 13 ≤ tw b n p ∧ tw b n p ≤ 21 then (if 120 ≤ m then .inl (4, tq b n p) else rdK b n (rdT b n H z) (tw b n p - 11) (tq b n p) (te b n p) sc (m + 1)) else .inl (1, tq b n p)) := itc_neg h
theorem rdB_in {p : Nat} {sc : List Nat} {r : Nat × Nat} (h : rdB b n p sc = .inr r) : isN b n p ∧ sc.length < 24 ∧ r = (nmAt b n p, te b n p) := by
  unfold rdB at h
  by_cases q : isN b n p
  · rw [itc_pos q] at h
    split at h
    · cases h
    · cases h
      exact ⟨q, by omega, rfl⟩
  · rw [itc_neg q] at h
    cases h
theorem scan_ge {z p o : Nat} {l : List Nat} {q : Nat} (hp : p ≤ n) (h : scan b n z p o = .inr (l, q)) : p ≤ q := by
  induction z generalizing p o l q with
  | zero =>
    cases o with
    | zero => rw [scan_z] at h; cases h; exact Nat.le_refl _
    | succ o => cases h
  | succ z ih =>
    cases o with
    | zero => rw [scan_z] at h; cases h; exact Nat.le_refl _
    | succ o =>
      rw [scan_s] at h
      split at h
      · split at h
        · cases h
        · rename_i r e
          cases h
          have hle := tq_le b n p hp
          have := ih (l := r.1) (q := r.2) hle.2.2.2 e
          omega
      · cases h
/-- what a text that is read is -/
def RdF (n : Nat) (H : List (Nat × Fm)) (sc : Nat) (m p : Nat) (r : Tm × List Nat × Nat) : Prop := isT r.1 ∧ sz r.1 = r.2.1.length ∧ scp r.1 sc ∧ shp H.length r.1 ∧ m + r.2.1.length ≤ 120 ∧ p ≤ r.2.2 ∧ r.2.2 ≤ n
theorem rdT_ok (hH : H.length ≤ 6) : ∀ z {p m : Nat} {sc : List Nat} {r : Tm × List Nat × Nat}, p ≤ n → rdT b n H z p sc m = .inr r → RdF n H sc.length m p r := by
  intro z
  induction z with
  | zero => intro p m sc r hp h; cases h
  | succ z ih =>
    intro p m sc r hp h
    have hle := tq_le b n p hp
    by_cases hN : isN b n p
    · rw [rdT_N hN] at h
      cases hm : mng sc H (nmAt b n p) with
      | none => rw [hm, rdN_n] at h; cases h
      | some t =>
        rw [hm] at h
        by_cases h120 : 120 ≤ m
        · rw [rdN_s, if_pos h120] at h
          cases h
        · rw [rdN_s, if_neg h120] at h
          cases h
          unfold mng at hm
          rcases lstI_is sc (nmAt b n p) sc.length with ⟨e, -⟩ | ⟨i, h1, -, e, -⟩
          · rw [e] at hm
            rcases fstI_is H (nmAt b n p) H.length 0 with ⟨e2, -⟩ | ⟨i, -, h1, -, e2, -⟩
            · rw [e2] at hm; cases hm
            · rw [e2] at hm
              cases hm
              exact ⟨trivial, rfl, (show i < 6 by omega), (show i < H.length by omega), by simp; omega, by show p ≤ te b n p; omega, hle.2.2.2⟩
          · rw [e] at hm
            cases hm
            exact ⟨trivial, rfl, h1, trivial, by simp; omega, by show p ≤ te b n p; omega, hle.2.2.2⟩
    · rw [rdT_O hN] at h
      split at h
      · rename_i hw
        split at h
        · cases h
        · rename_i h120
          unfold rdK at h
          by_cases h2 : tw b n p - 11 = 2
          · rw [if_pos h2] at h
            obtain ⟨u, e1, h⟩ := sbg_in h
            obtain ⟨w, e2, h⟩ := sbg_in h
            obtain ⟨r1, e3, h⟩ := sbg_in h
            cases h
            obtain ⟨q1, q2, q3⟩ := rdB_in e1
            have hle2 := tq_le b n (te b n p) hle.2.2.2
            have hu : u.2 ≤ n ∧ te b n p ≤ u.2 := by rw [q3]; exact ⟨hle2.2.2.2, by show _ ≤ te b n (te b n p); omega⟩
            have hw2 := (scan_chk (l := w.1) (q := w.2) hu.1 e2).2
            have hg := scan_ge (l := w.1) (q := w.2) hu.1 e2
            obtain ⟨f1, f2, f3, f4, f5, f6, f7⟩ := ih hw2 e3
            rw [List.length_append] at f3
            refine ⟨⟨Or.inl (Or.inl rfl), f1⟩, ?_, f3, f4, ?_, ?_, f7⟩
            · rw [sz_U, f2]; rfl
            · simp only [List.length_cons]; omega
            · show p ≤ r1.2.2
              omega
          · rw [if_neg h2] at h
            by_cases h9 : tw b n p - 11 = 9
            · rw [if_pos h9] at h
              obtain ⟨r1, e1, h⟩ := sbg_in h
              obtain ⟨u, e2, h⟩ := sbg_in h
              obtain ⟨r2, e3, h⟩ := sbg_in h
              obtain ⟨v, e4, h⟩ := sbg_in h
              obtain ⟨r3, e5, h⟩ := sbg_in h
              cases h
              obtain ⟨f1, f2, f3, f4, f5, f6, f7⟩ := ih hle.2.2.2 e1
              obtain ⟨-, -, q3⟩ := rdB_in e2
              have hle2 := tq_le b n r1.2.2 f7
              have hu : u.2 ≤ n ∧ r1.2.2 ≤ u.2 := by rw [q3]; exact ⟨hle2.2.2.2, by show _ ≤ te b n r1.2.2; omega⟩
              obtain ⟨g1, g2, g3, g4, g5, g6, g7⟩ := ih hu.1 e3
              obtain ⟨-, -, q4⟩ := rdB_in e4
              have hle3 := tq_le b n r2.2.2 g7
              have hv : v.2 ≤ n ∧ r2.2.2 ≤ v.2 := by rw [q4]; exact ⟨hle3.2.2.2, by show _ ≤ te b n r2.2.2; omega⟩
              obtain ⟨k1, k2, k3, k4, k5, k6, k7⟩ := ih hv.1 e5
              rw [List.length_append] at g3 k3
              refine ⟨⟨f1, g1, k1⟩, ?_, ⟨f3, g3, k3⟩, ⟨f4, g4, k4⟩, ?_, ?_, k7⟩
              · rw [sz_C, f2, g2, k2]
                simp only [List.length_cons, List.length_append]
                omega
              · simp only [List.length_cons, List.length_append]; omega
              · show p ≤ r3.2.2
                omega
            · rw [if_neg h9] at h
              by_cases h34 : tw b n p - 11 = 3 ∨ tw b n p - 11 = 4
              · rw [if_pos h34] at h
                obtain ⟨r1, e1, h⟩ := sbg_in h
                obtain ⟨r2, e3, h⟩ := sbg_in h
                cases h
                obtain ⟨f1, f2, f3, f4, f5, f6, f7⟩ := ih hle.2.2.2 e1
                obtain ⟨g1, g2, g3, g4, g5, g6, g7⟩ := ih f7 e3
                refine ⟨⟨h34, f1, g1⟩, ?_, ⟨f3, g3⟩, ⟨f4, g4⟩, ?_, ?_, g7⟩
                · rw [sz_B, f2, g2]
                  simp only [List.length_cons, List.length_append]
                · simp only [List.length_cons, List.length_append]; omega
                · show p ≤ r2.2.2
                  omega
              · rw [if_neg h34] at h
                have hz : amN (tw b n p - 11) 0 = 0 := by
                  unfold amN
                  rw [if_neg h2, if_neg (by omega)]
                by_cases h56 : tw b n p - 11 = 5 ∨ tw b n p - 11 = 6
                · rw [if_pos h56] at h
                  obtain ⟨r1, e1, h⟩ := sbg_in h
                  cases h
                  obtain ⟨f1, f2, f3, f4, f5, f6, f7⟩ := ih hle.2.2.2 e1
                  refine ⟨⟨Or.inr ⟨h56, rfl⟩, f1⟩, ?_, ?_, f4, ?_, ?_, f7⟩
                  · rw [sz_U, f2]; rfl
                  · show scp r1.1 (sc.length + amN (tw b n p - 11) 0)
                    rw [hz]; exact f3
                  · simp only [List.length_cons]; omega
                  · show p ≤ r1.2.2
                    omega
                · rw [if_neg h56] at h
                  obtain ⟨w, e2, h⟩ := sbg_in h
                  obtain ⟨r1, e1, h⟩ := sbg_in h
                  cases h
                  have hw2 := (scan_chk (l := w.1) (q := w.2) hle.2.2.2 e2).2
                  have hg := scan_ge (l := w.1) (q := w.2) hle.2.2.2 e2
                  obtain ⟨f1, f2, f3, f4, f5, f6, f7⟩ := ih hw2 e1
                  refine ⟨⟨Or.inl (by unfold tf; omega), f1⟩, ?_, ?_, f4, ?_, ?_, f7⟩
                  · rw [sz_U, f2]; rfl
                  · show scp r1.1 (sc.length + amN (tw b n p - 11) 0)
                    rw [hz]; exact f3
                  · simp only [List.length_cons]; omega
                  · show p ≤ r1.2.2
                    omega
      · cases h
end RDT
