/-! READING A FORMULA, as a row of words -/
noncomputable def tw (b : Nat → Nat) (n p : Nat) : Nat := if wcd b (tq b n p) (te b n p - tq b n p) = -1 then 99 else (wcd b (tq b n p) (te b n p - tq b n p)).toNatClampNeg
theorem wcd_is (b : Nat → Nat) (q c : Nat) : wcd b q c = -1 ∨ ∃ w, w < 22 ∧ c = wlen w ∧ wcd b q c = nI w ∧ isW b q c w := by
  rcases wfd_is (P := isW b q c) 22 0 with ⟨h, -⟩ | ⟨i, -, h1, h2, h3, -⟩
  · exact Or.inl h
  · exact Or.inr ⟨i, by omega, h2.1, h3, h2⟩
theorem tq_le (b : Nat → Nat) (n p : Nat) (hp : p ≤ n) : p ≤ tq b n p ∧ tq b n p ≤ n ∧ tq b n p ≤ te b n p ∧ te b n p ≤ n := by
  have sk := skp_is b (n - p) p
  have h1 : tq b n p ≤ n := by show skp b (n - p) p ≤ n; omega
  have lt := lts_is b (n - tq b n p) (tq b n p)
  exact ⟨sk.1, h1, lt.1, by show lts b (n - tq b n p) (tq b n p) ≤ n; omega⟩
theorem tw_is (b : Nat → Nat) (n p : Nat) (hp : p ≤ n) : (tw b n p < 22 ∧ wcd b (tq b n p) (te b n p - tq b n p) = nI (tw b n p) ∧ cod b n p = nI (tw b n p) ∧ nxt b n p = te b n p ∧ tq b n p < te b n p ∧ te b n p = tq b n p + wlen (tw b n p)) ∨ (tw b n p = 99 ∧ wcd b (tq b n p) (te b n p - tq b n p) = -1 ∧ (cod b n p = -1 ∨ cod b n p = -2 ∨ cod b n p = -3)) := by
  have hle := tq_le b n p hp
  rcases wcd_is b (tq b n p) (te b n p - tq b n p) with h | ⟨w, hw, hc, h, -⟩
  · right
    refine ⟨if_pos h, h, ?_⟩
    unfold cod
    split
    · exact Or.inr (Or.inr rfl)
    · split
      · exact Or.inr (Or.inl rfl)
      · split
        · exact Or.inl h
        · exact Or.inl rfl
  · left
    have e : tw b n p = w := by
      unfold tw
      rw [h, if_neg (of_eq_false (nI_ne_m1 (by omega))), nI_z (by omega)]
    have hl := (wch_is w hw).1
    rw [e]
    refine ⟨hw, h, ?_, ?_, by omega, by omega⟩
    · unfold cod
      rw [if_neg (by omega), if_neg (by omega), if_pos (by omega), h]
    · unfold nxt
      rw [if_neg (by omega), if_neg (by omega)]
def opn (o w : Nat) : Nat := if w = 12 then o + 1 else if 9 ≤ w then o + 2 else o
noncomputable def scan (b : Nat → Nat) (n : Nat) : Nat → Nat → Nat → (Nat × Nat) ⊕ (List Nat × Nat)
  | _, p, 0 => .inr ([], p)
  | 0, p, _ + 1 => .inl (if tw b n p ≤ 12 then 4 else 1, tq b n p)
  | z + 1, p, o + 1 => if tw b n p ≤ 12 then (match scan b n z (te b n p) (opn o (tw b n p)) with
    | .inl e => .inl e
    | .inr q => .inr (tw b n p :: q.1, q.2)) else .inl (1, tq b n p)
theorem scan_z (b : Nat → Nat) (n z p : Nat) : scan b n z p 0 = .inr ([], p) := by cases z <;> rfl
theorem scan_s (b : Nat → Nat) (n z p o : Nat) : scan b n (z + 1) p (o + 1) = if tw b n p ≤ 12 then (match scan b n z (te b n p) (opn o (tw b n p)) with
    | .inl e => .inl e
    | .inr q => .inr (tw b n p :: q.1, q.2)) else .inl (1, tq b n p) := rfl
theorem opn_add (a m w : Nat) : opn (a + m) w = opn a w + m := by
  unfold opn
  split
  · omega
  · split <;> omega
theorem scan_len {b : Nat → Nat} {n : Nat} : ∀ {z p o : Nat} {l : List Nat} {q : Nat}, scan b n z p o = .inr (l, q) → l.length ≤ z := by
  intro z
  induction z with
  | zero =>
    intro p o l q h
    cases o with
    | zero => rw [scan_z] at h; cases h; exact Nat.le_refl _
    | succ o => cases h
  | succ z ih =>
    intro p o l q h
    cases o with
    | zero => rw [scan_z] at h; cases h; exact Nat.zero_le _
    | succ o =>
      rw [scan_s] at h
      split at h
      · split at h
        · cases h
        · rename_i r e
          cases h
          have := ih (l := r.1) (q := r.2) e
          simp only [List.length_cons]
          omega
      · cases h
theorem scan_add {b : Nat → Nat} {n : Nat} : ∀ (z p a m : Nat), scan b n z p (a + m) = match scan b n z p a with
    | .inl e => .inl e
    | .inr r => (match scan b n (z - r.1.length) r.2 m with
      | .inl e => .inl e
      | .inr s => .inr (r.1 ++ s.1, s.2)) := by
  intro z
  induction z with
  | zero =>
    intro p a m
    cases a with
    | zero =>
      rw [scan_z, Nat.zero_add]
      show _ = match scan b n (0 - 0) p m with
        | .inl e => Sum.inl e
        | .inr s => .inr ([] ++ s.1, s.2)
      cases scan b n 0 p m with
      | inl e => rfl
      | inr s => rfl
    | succ a =>
      rw [show a + 1 + m = (a + m) + 1 by omega]
      rfl
  | succ z ih =>
    intro p a m
    cases a with
    | zero =>
      rw [scan_z, Nat.zero_add]
      show _ = match scan b n (z + 1 - 0) p m with
        | .inl e => Sum.inl e
        | .inr s => .inr ([] ++ s.1, s.2)
      cases scan b n (z + 1) p m with
      | inl e => rfl
      | inr s => rfl
    | succ a =>
      rw [show a + 1 + m = (a + m) + 1 by omega, scan_s, scan_s]
      by_cases h : tw b n p ≤ 12
      · rw [if_pos h, if_pos h, opn_add, ih]
        cases hs : scan b n z (te b n p) (opn a (tw b n p)) with
        | inl e => rfl
        | inr r =>
          show (match (match scan b n (z - r.1.length) r.2 m with
            | .inl e => Sum.inl e
            | .inr s => .inr (r.1 ++ s.1, s.2)) with
            | .inl e => Sum.inl e
            | .inr q => .inr (tw b n p :: q.1, q.2)) = match scan b n (z + 1 - (tw b n p :: r.1).length) r.2 m with
            | .inl e => Sum.inl e
            | .inr s => .inr (tw b n p :: r.1 ++ s.1, s.2)
          rw [show z + 1 - (tw b n p :: r.1).length = z - r.1.length by simp]
          cases scan b n (z - r.1.length) r.2 m with
          | inl e => rfl
          | inr s => rfl
      · rw [if_neg h, if_neg h]
/-- a row of words that is so many formulas -/
def chk : List Nat → Nat → Prop
  | [], o => o = 0
  | _ :: _, 0 => False
  | c :: l, o + 1 => c ≤ 12 ∧ chk l (opn o c)
theorem scan_chk {b : Nat → Nat} {n : Nat} : ∀ {z p o : Nat} {l : List Nat} {q : Nat}, p ≤ n → scan b n z p o = .inr (l, q) → chk l o ∧ q ≤ n := by
  intro z
  induction z with
  | zero =>
    intro p o l q hp h
    cases o with
    | zero => rw [scan_z] at h; cases h; exact ⟨rfl, hp⟩
    | succ o => cases h
  | succ z ih =>
    intro p o l q hp h
    cases o with
    | zero => rw [scan_z] at h; cases h; exact ⟨rfl, hp⟩
    | succ o =>
      rw [scan_s] at h
      split at h
      · rename_i hw
        split at h
        · cases h
        · rename_i r e
          cases h
          have := ih (l := r.1) (q := r.2) (tq_le b n p hp).2.2.2 e
          exact ⟨⟨hw, this.1⟩, this.2⟩
      · cases h
def ev : List Nat → List Fm
  | [] => []
  | c :: l => if c = 12 then .add ((ev l).headD (.arg 0)) (.arg 8) :: (ev l).tail else if 9 ≤ c then mkF c ((ev l).headD (.arg 0)) ((ev l).tail.headD (.arg 0)) :: (ev l).tail.tail else .arg c :: ev l
theorem ev_12 (l : List Nat) : ev (12 :: l) = .add ((ev l).headD (.arg 0)) (.arg 8) :: (ev l).tail := rfl
theorem ev_bin {c : Nat} (l : List Nat) (h : 9 ≤ c) (h2 : c ≠ 12) : ev (c :: l) = mkF c ((ev l).headD (.arg 0)) ((ev l).tail.headD (.arg 0)) :: (ev l).tail.tail := by
  show (if c = 12 then _ else if 9 ≤ c then _ else _) = _
  rw [if_neg h2, if_pos h]
theorem ev_leaf {c : Nat} (l : List Nat) (h : c < 9) : ev (c :: l) = .arg c :: ev l := by
  show (if c = 12 then _ else if 9 ≤ c then _ else _) = _
  rw [if_neg (by omega), if_neg (by omega)]
theorem ev_app : ∀ {l : List Nat} {o : Nat}, chk l o → (ev l).length = o ∧ ∀ l2, ev (l ++ l2) = ev l ++ ev l2 := by
  intro l
  induction l with
  | nil => intro o h; exact ⟨h.symm, fun _ => rfl⟩
  | cons c l ih =>
    intro o h
    cases o with
    | zero => exact h.elim
    | succ o =>
      obtain ⟨hc, hl⟩ := h
      obtain ⟨i1, i2⟩ := ih hl
      by_cases h12 : c = 12
      · subst h12
        rw [show opn o 12 = o + 1 from rfl] at i1
        obtain ⟨x, s, e⟩ : ∃ x s, ev l = x :: s := by
          cases hh : ev l with
          | nil => rw [hh] at i1; simp at i1
          | cons x s => exact ⟨x, s, rfl⟩
        refine ⟨?_, fun l2 => ?_⟩
        · rw [ev_12, e]
          rw [e] at i1
          simp only [List.length_cons, List.tail_cons] at i1 ⊢
          omega
        · rw [List.cons_append, ev_12, ev_12, i2, e]
          rfl
      · by_cases h9 : 9 ≤ c
        · have ho : opn o c = o + 2 := by unfold opn; rw [if_neg h12, if_pos h9]
          rw [ho] at i1
          obtain ⟨x, y, s, e⟩ : ∃ x y s, ev l = x :: y :: s := by
            cases hh : ev l with
            | nil => rw [hh] at i1; simp at i1
            | cons x s =>
              cases s with
              | nil => rw [hh] at i1; simp at i1
              | cons y s => exact ⟨x, y, s, rfl⟩
          refine ⟨?_, fun l2 => ?_⟩
          · rw [ev_bin l h9 h12, e]
            rw [e] at i1
            simp only [List.length_cons, List.tail_cons] at i1 ⊢
            omega
          · rw [List.cons_append, ev_bin _ h9 h12, ev_bin l h9 h12, i2, e]
            rfl
        · have ho : opn o c = o := by unfold opn; rw [if_neg h12, if_neg h9]
          rw [ho] at i1
          refine ⟨?_, fun l2 => ?_⟩
          · rw [ev_leaf l (by omega)]
            simp only [List.length_cons]
            omega
          · rw [List.cons_append, ev_leaf _ (by omega), ev_leaf l (by omega), i2]
            rfl
/-- how many words a formula has, spelt -/
def wdf : Fm → Nat
  | .add a b => 1 + wdf a + wdf b
  | .mul a b => 1 + wdf a + wdf b
  | .sub a b => 1 + wdf a + wdf b
  | _ => 1
def sumF : List Fm → Nat
  | [] => 0
  | f :: l => wdf f + sumF l
theorem wdf_mk (j : Nat) (a b : Fm) : wdf (mkF j a b) = 1 + wdf a + wdf b := by
  unfold mkF
  split
  · rfl
  · split <;> rfl
theorem ev_sum : ∀ {l : List Nat} {o : Nat}, chk l o → sumF (ev l) = l.length + l.count 12 := by
  intro l
  induction l with
  | nil => intro o h; rfl
  | cons c l ih =>
    intro o h
    cases o with
    | zero => exact h.elim
    | succ o =>
      obtain ⟨hc, hl⟩ := h
      have i0 := ih hl
      have i1 := (ev_app hl).1
      by_cases h12 : c = 12
      · subst h12
        rw [show opn o 12 = o + 1 from rfl] at i1
        obtain ⟨x, s, e⟩ : ∃ x s, ev l = x :: s := by
          cases hh : ev l with
          | nil => rw [hh] at i1; simp at i1
          | cons x s => exact ⟨x, s, rfl⟩
        rw [ev_12, e]
        rw [e] at i0
        simp only [sumF, List.headD_cons, List.tail_cons, wdf, List.length_cons, List.count_cons_self] at i0 ⊢
        omega
      · have hcount : (c :: l).count 12 = l.count 12 := by
          rw [List.count_cons_of_ne]
          exact h12
        rw [hcount]
        by_cases h9 : 9 ≤ c
        · have ho : opn o c = o + 2 := by unfold opn; rw [if_neg h12, if_pos h9]
          rw [ho] at i1
          obtain ⟨x, y, s, e⟩ : ∃ x y s, ev l = x :: y :: s := by
            cases hh : ev l with
            | nil => rw [hh] at i1; simp at i1
            | cons x s =>
              cases s with
              | nil => rw [hh] at i1; simp at i1
              | cons y s => exact ⟨x, y, s, rfl⟩
          rw [ev_bin l h9 h12, e]
          rw [e] at i0
          simp only [sumF, List.headD_cons, List.tail_cons, wdf_mk, List.length_cons] at i0 ⊢
          omega
        · rw [ev_leaf l (by omega)]
          simp only [sumF, wdf, List.length_cons]
          omega
/-- a word and what parts it from the next take two bytes -/
theorem scan_bytes0 {b : Nat → Nat} {n : Nat} : ∀ {z p o : Nat} {l : List Nat} {q : Nat}, p ≤ n → (p < n → ¬ isLt (b p)) → scan b n z p o = .inr (l, q) → p + 2 * l.length ≤ q := by
  intro z
  induction z with
  | zero =>
    intro p o l q hp he h
    cases o with
    | zero => rw [scan_z] at h; cases h; exact Nat.le_refl _
    | succ o => cases h
  | succ z ih =>
    intro p o l q hp he h
    cases o with
    | zero => rw [scan_z] at h; cases h; exact Nat.le_refl _
    | succ o =>
      rw [scan_s] at h
      split at h
      · rename_i hw
        split at h
        · cases h
        · rename_i r e
          cases h
          have hle := tq_le b n p hp
          rcases tw_is b n p hp with ⟨t1, t2, t3, t4, t5, t6⟩ | ⟨t1, -⟩
          · have ls := lts_is b (n - tq b n p) (tq b n p)
            have hL := ls.2.2.2 (tq b n p) (Nat.le_refl _) t5
            have hne : p ≠ tq b n p := by
              intro q
              have h1 := he (by omega)
              rw [q] at h1
              exact h1 hL
            have hend : te b n p < n → ¬ isLt (b (te b n p)) := fun x => ls.2.2.1 (by show te b n p < _; omega)
            have := ih (l := r.1) (q := r.2) hle.2.2.2 hend e
            simp only [List.length_cons]
            omega
          · omega
      · cases h
theorem scan_bytes {b : Nat → Nat} {n : Nat} {z p o : Nat} {l : List Nat} {q : Nat} (hp : p ≤ n) (h : scan b n z p o = .inr (l, q)) : p + 2 * l.length ≤ q + 1 := by
  cases z with
  | zero =>
    cases o with
    | zero => rw [scan_z] at h; cases h; exact Nat.le_succ _
    | succ o => cases h
  | succ z =>
    cases o with
    | zero => rw [scan_z] at h; cases h; exact Nat.le_succ _
    | succ o =>
      rw [scan_s] at h
      split at h
      · rename_i hw
        split at h
        · cases h
        · rename_i r e
          cases h
          have hle := tq_le b n p hp
          rcases tw_is b n p hp with ⟨t1, t2, t3, t4, t5, t6⟩ | ⟨t1, -⟩
          · have ls := lts_is b (n - tq b n p) (tq b n p)
            have hend : te b n p < n → ¬ isLt (b (te b n p)) := fun x => ls.2.2.1 (by show te b n p < _; omega)
            have := scan_bytes0 (l := r.1) (q := r.2) hle.2.2.2 hend e
            simp only [List.length_cons]
            omega
          · omega
      · cases h
