/-! TABLES OF FORMULAS: rows of kinds, lefts, rights; what a number stands for; chains -/
def wlN (k : Nat) : Nat := [1, 1, 1, 1, 1, 1, 1, 1, 2, 3, 3, 2].getD k 0
def blen : Fm → Nat
  | .arg k => wlN k
  | .add a b => 5 + blen a + blen b
  | .mul a b => 5 + blen a + blen b
  | .sub a b => 4 + blen a + blen b
  | _ => 0
def TbI (c : Nat) (k l r : Nat → Int32) : Prop := ∀ i, i < c → (∃ j, j < 9 ∧ k i = nI j ∧ l i = -1 ∧ r i = -1) ∨ (∃ j a b, 9 ≤ j ∧ j ≤ 11 ∧ a < i ∧ b < i ∧ k i = nI j ∧ l i = nI a ∧ r i = nI b)
def TbD (c : Nat) (k l r : Nat → Int32) : Prop := ∀ i j, i < c → j < c → k i = k j → l i = l j → r i = r j → i = j
def nz (f : Nat → Int32) (i : Nat) : Nat := (f i).toNatClampNeg
def dT (k l r : Nat → Int32) (i : Nat) : Fm := dn (nz k) (nz l) (nz r) i
def mkF (j : Nat) (a b : Fm) : Fm := if j = 9 then .add a b else if j = 10 then .mul a b else .sub a b
theorem nz_of {f : Nat → Int32} {i j : Nat} (h : f i = nI j) (hj : j < 2147483648) : nz f i = j := by unfold nz; rw [h, nI_z hj]
section TB
variable {c : Nat} {k l r : Nat → Int32}
theorem tb_lt (h : TbI c k l r) (hc : c ≤ 20000) : ∀ i, i < c → 9 ≤ nz k i → nz l i < i ∧ nz r i < i := by
  intro i hi h9
  rcases h i hi with ⟨j, hj, e, -⟩ | ⟨j, a, b, h1, h2, ha, hb, e1, e2, e3⟩
  · rw [nz_of e (by omega)] at h9
    omega
  · rw [nz_of e2 (by omega), nz_of e3 (by omega)]
    exact ⟨ha, hb⟩
theorem dT_leaf (h : TbI c k l r) (hc : c ≤ 20000) {i j : Nat} (hi : i < c) (hj : j < 9) (e : k i = nI j) : dT k l r i = .arg j := by
  have := (dn_eq0 (kd := nz k) (lf := nz l) (rt := nz r) (tb_lt h hc) hi).1
  rw [nz_of e (by omega)] at this
  exact this hj
theorem dT_node (h : TbI c k l r) (hc : c ≤ 20000) {i j a b : Nat} (hi : i < c) (h1 : 9 ≤ j) (h2 : j ≤ 11) (e1 : k i = nI j) (e2 : l i = nI a) (e3 : r i = nI b) (ha : a < i) (hb : b < i) : dT k l r i = mkF j (dT k l r a) (dT k l r b) := by
  have q := (dn_eq0 (kd := nz k) (lf := nz l) (rt := nz r) (tb_lt h hc) hi).2
  rw [nz_of e1 (by omega), nz_of e2 (by omega), nz_of e3 (by omega)] at q
  unfold mkF
  by_cases h9 : j = 9
  · rw [if_pos h9]
    exact q.1 h9
  · rw [if_neg h9]
    by_cases h10 : j = 10
    · rw [if_pos h10]
      exact q.2.1 h10
    · rw [if_neg h10]
      exact q.2.2 (by omega)
theorem mkF_ne {j n : Nat} {a b : Fm} : mkF j a b ≠ .arg n := by
  unfold mkF
  split
  · intro q; cases q
  · split
    · intro q; cases q
    · intro q; cases q
theorem mkF_inj {j j' : Nat} {a b a' b' : Fm} (h1 : 9 ≤ j) (h2 : j ≤ 11) (h3 : 9 ≤ j') (h4 : j' ≤ 11) (e : mkF j a b = mkF j' a' b') : j = j' ∧ a = a' ∧ b = b' := by
  unfold mkF at e
  split at e
  · split at e
    · cases e
      exact ⟨by omega, rfl, rfl⟩
    · split at e <;> cases e
  · split at e
    · split at e
      · cases e
      · split at e
        · cases e
          exact ⟨by omega, rfl, rfl⟩
        · cases e
    · split at e
      · cases e
      · split at e
        · cases e
        · cases e
          exact ⟨by omega, rfl, rfl⟩
theorem dT_inj (h : TbI c k l r) (hd : TbD c k l r) (hc : c ≤ 20000) : ∀ (z i j : Nat), i < z → i < c → j < c → dT k l r i = dT k l r j → i = j := by
  intro z
  induction z with
  | zero => intro i j h1; omega
  | succ z ih =>
    intro i j hz hi hj e
    rcases h i hi with ⟨p, hp, e1, e2, e3⟩ | ⟨p, a, b, h1, h2, ha, hb, e1, e2, e3⟩
    · rw [dT_leaf h hc hi hp e1] at e
      rcases h j hj with ⟨q, hq, f1, f2, f3⟩ | ⟨q, a', b', g1, g2, ha', hb', f1, f2, f3⟩
      · rw [dT_leaf h hc hj hq f1] at e
        cases e
        exact hd i j hi hj (e1.trans f1.symm) (e2.trans f2.symm) (e3.trans f3.symm)
      · rw [dT_node h hc hj g1 g2 f1 f2 f3 ha' hb'] at e
        exact (mkF_ne e.symm).elim
    · rw [dT_node h hc hi h1 h2 e1 e2 e3 ha hb] at e
      rcases h j hj with ⟨q, hq, f1, f2, f3⟩ | ⟨q, a', b', g1, g2, ha', hb', f1, f2, f3⟩
      · rw [dT_leaf h hc hj hq f1] at e
        exact (mkF_ne e).elim
      · rw [dT_node h hc hj g1 g2 f1 f2 f3 ha' hb'] at e
        obtain ⟨hpq, hA, hB⟩ := mkF_inj h1 h2 g1 g2 e
        have ea := ih a a' (by omega) (by omega) (by omega) hA
        have eb := ih b b' (by omega) (by omega) (by omega) hB
        subst hpq ea eb
        exact hd i j hi hj (e1.trans f1.symm) (e2.trans f2.symm) (e3.trans f3.symm)
theorem TbI.congr {k' l' r' : Nat → Int32} (h : TbI c k l r) (hk : ∀ i, i < c → k' i = k i ∧ l' i = l i ∧ r' i = r i) : TbI c k' l' r' := by
  intro i hi
  obtain ⟨a, b, d⟩ := hk i hi
  rw [a, b, d]
  exact h i hi
theorem dT_congr {k' l' r' : Nat → Int32} (h : TbI c k l r) (hc : c ≤ 20000) (hk : ∀ i, i < c → k' i = k i ∧ l' i = l i ∧ r' i = r i) : ∀ (z i : Nat), i < z → i < c → dT k' l' r' i = dT k l r i := by
  intro z
  induction z with
  | zero => intro i h1; omega
  | succ z ih =>
    intro i hz hi
    obtain ⟨x1, x2, x3⟩ := hk i hi
    rcases h i hi with ⟨p, hp, e1, e2, e3⟩ | ⟨p, a, b, h1, h2, ha, hb, e1, e2, e3⟩
    · rw [dT_leaf h hc hi hp e1, dT_leaf (h.congr hk) hc hi hp (x1.trans e1)]
    · rw [dT_node h hc hi h1 h2 e1 e2 e3 ha hb, dT_node (h.congr hk) hc hi h1 h2 (x1.trans e1) (x2.trans e2) (x3.trans e3) ha hb, ih a (by omega) (by omega), ih b (by omega) (by omega)]
/-- one more entry -/
theorem TbI.push {k' l' r' : Nat → Int32} (h : TbI c k l r) (hk : ∀ i, i < c → k' i = k i ∧ l' i = l i ∧ r' i = r i) {j a b : Nat} (h1 : 9 ≤ j) (h2 : j ≤ 11) (ha : a < c) (hb : b < c) (e1 : k' c = nI j) (e2 : l' c = nI a) (e3 : r' c = nI b) : TbI (c + 1) k' l' r' := by
  intro i hi
  by_cases hc : i < c
  · exact h.congr hk i hc
  · have : i = c := by omega
    subst this
    exact Or.inr ⟨j, a, b, h1, h2, ha, hb, e1, e2, e3⟩
theorem TbI.push0 {k' l' r' : Nat → Int32} (h : TbI c k l r) (hk : ∀ i, i < c → k' i = k i ∧ l' i = l i ∧ r' i = r i) {j : Nat} (h1 : j < 9) (e1 : k' c = nI j) (e2 : l' c = -1) (e3 : r' c = -1) : TbI (c + 1) k' l' r' := by
  intro i hi
  by_cases hc : i < c
  · exact h.congr hk i hc
  · have : i = c := by omega
    subst this
    exact Or.inl ⟨j, h1, e1, e2, e3⟩
theorem TbD.push {k' l' r' : Nat → Int32} (h : TbD c k l r) (hk : ∀ i, i < c → k' i = k i ∧ l' i = l i ∧ r' i = r i) (hn : ∀ i, i < c → ¬ (k i = k' c ∧ l i = l' c ∧ r i = r' c)) : TbD (c + 1) k' l' r' := by
  intro i j hi hj e1 e2 e3
  by_cases h1 : i < c
  · by_cases h2 : j < c
    · obtain ⟨a, b, d⟩ := hk i h1
      obtain ⟨a', b', d'⟩ := hk j h2
      exact h i j h1 h2 (by rw [← a, ← a', e1]) (by rw [← b, ← b', e2]) (by rw [← d, ← d', e3])
    · have : j = c := by omega
      subst this
      obtain ⟨a, b, d⟩ := hk i h1
      exact (hn i h1 ⟨by rw [← a, e1], by rw [← b, e2], by rw [← d, e3]⟩).elim
  · have hic : i = c := by omega
    subst hic
    by_cases h2 : j < i
    · obtain ⟨a', b', d'⟩ := hk j h2
      exact (hn j h2 ⟨by rw [← a', ← e1], by rw [← b', ← e2], by rw [← d', ← e3]⟩).elim
    · omega
end TB
/-- the last number below n, from lo on, whose hash is h -/
def pvh (H : Nat → Int32) (lo : Nat) (h : Int32) : Nat → Int32
  | 0 => -1
  | n + 1 => if lo ≤ n ∧ H n = h then nI n else pvh H lo h n
theorem pvh_cases {H : Nat → Int32} {lo : Nat} {h : Int32} : ∀ n, (pvh H lo h n = -1 ∧ ∀ j, j < n → lo ≤ j → H j ≠ h) ∨ ∃ j, j < n ∧ lo ≤ j ∧ H j = h ∧ pvh H lo h n = nI j ∧ ∀ i, j < i → i < n → H i ≠ h := by
  intro n
  induction n with
  | zero => exact Or.inl ⟨rfl, fun j hj => by omega⟩
  | succ n ih =>
    by_cases hn : lo ≤ n ∧ H n = h
    · refine Or.inr ⟨n, by omega, hn.1, hn.2, ?_, fun i h1 h2 => by omega⟩
      unfold pvh
      rw [if_pos hn]
    · have e : pvh H lo h (n + 1) = pvh H lo h n := by
        show (if lo ≤ n ∧ H n = h then nI n else pvh H lo h n) = _
        rw [if_neg hn]
      rw [e]
      rcases ih with ⟨a, b⟩ | ⟨j, a, b, d, f, g⟩
      · refine Or.inl ⟨a, fun j hj hl => ?_⟩
        by_cases q : j = n
        · subst q
          exact fun x => hn ⟨hl, x⟩
        · exact b j (by omega) hl
      · refine Or.inr ⟨j, by omega, b, d, f, fun i h1 h2 => ?_⟩
        by_cases q : i = n
        · subst q
          exact fun x => hn ⟨by omega, x⟩
        · exact g i h1 (by omega)
theorem pvh_congr {H H' : Nat → Int32} {lo : Nat} {h : Int32} : ∀ {n : Nat}, (∀ j, j < n → H' j = H j) → pvh H' lo h n = pvh H lo h n := by
  intro n
  induction n with
  | zero => intro _; rfl
  | succ n ih =>
    intro q
    unfold pvh
    rw [q n (by omega), ih (fun j hj => q j (by omega))]
theorem pvh_same {H : Nat → Int32} {lo n : Nat} (hl : lo ≤ n) : pvh H lo (H n) (n + 1) = nI n := by
  unfold pvh
  rw [if_pos ⟨hl, rfl⟩]
theorem pvh_other {H : Nat → Int32} {lo n : Nat} {h : Int32} (hn : H n ≠ h) : pvh H lo h (n + 1) = pvh H lo h n := by
  show (if lo ≤ n ∧ H n = h then nI n else pvh H lo h n) = _
  rw [if_neg (fun q => hn q.2)]
