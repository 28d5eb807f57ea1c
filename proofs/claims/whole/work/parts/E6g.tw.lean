/-! TOLD WORDS: leaves and nots of a formula -/
def isn : Fm → Nat
  | .arg k => if k = 8 then 1 else 0
  | _ => 0
def lea : Fm → Nat
  | .add a b => lea a + (lea b - isn b)
  | .mul a b => lea a + lea b
  | .sub a b => lea a + lea b
  | _ => 1
def nt : Fm → Nat
  | .add a b => nt a + (nt b + isn b)
  | .mul a b => nt a + nt b
  | .sub a b => nt a + nt b
  | _ => 0
theorem isn_le (f : Fm) : isn f ≤ 1 := by
  cases f with
  | arg k => show (if k = 8 then 1 else 0) ≤ 1; split <;> omega
  | _ => exact Nat.zero_le _
theorem lea_pos (f : Fm) : 1 ≤ lea f := by
  induction f with
  | add a b ia ib => show 1 ≤ lea a + (lea b - isn b); omega
  | mul a b ia ib => show 1 ≤ lea a + lea b; omega
  | sub a b ia ib => show 1 ≤ lea a + lea b; omega
  | _ => exact Nat.le_refl _
theorem lea_nt (f : Fm) : wdf f + 1 = 2 * (lea f + nt f) := by
  induction f with
  | add a b ia ib =>
    show 1 + wdf a + wdf b + 1 = 2 * (lea a + (lea b - isn b) + (nt a + (nt b + isn b)))
    have := isn_le b
    have := lea_pos b
    omega
  | mul a b ia ib => show 1 + wdf a + wdf b + 1 = 2 * (lea a + lea b + (nt a + nt b)); omega
  | sub a b ia ib => show 1 + wdf a + wdf b + 1 = 2 * (lea a + lea b + (nt a + nt b)); omega
  | _ => rfl
def sumT : List Fm → Nat
  | [] => 0
  | f :: l => 2 * lea f + nt f + sumT l
theorem tw_mk (j : Nat) (a b : Fm) : 2 * lea (mkF j a b) + nt (mkF j a b) ≤ 2 * lea a + nt a + (2 * lea b + nt b) := by
  have h1 := isn_le b
  have h2 := lea_pos b
  unfold mkF
  split
  · show 2 * (lea a + (lea b - isn b)) + (nt a + (nt b + isn b)) ≤ _
    omega
  · split
    · show 2 * (lea a + lea b) + (nt a + nt b) ≤ _
      omega
    · show 2 * (lea a + lea b) + (nt a + nt b) ≤ _
      omega
theorem ev_tw : ∀ {l : List Nat} {o : Nat}, chk l o → sumT (ev l) ≤ l.length + o := by
  intro l
  induction l with
  | nil => intro o h; exact Nat.zero_le _
  | cons c l ih =>
    intro o h
    cases o with
    | zero => exact h.elim
    | succ o =>
      obtain ⟨hc, hl⟩ := h
      have i0 := ih hl
      have i1 := (ev_app hl).1
      by_cases h12 : c = 12
      · subst h12
        rw [show opn o 12 = o + 1 from rfl] at i1 i0
        obtain ⟨x, s, e⟩ : ∃ x s, ev l = x :: s := by
          cases hh : ev l with
          | nil => rw [hh] at i1; simp at i1
          | cons x s => exact ⟨x, s, rfl⟩
        rw [ev_12, e]
        rw [e] at i0
        have i0 : 2 * lea x + nt x + sumT s ≤ l.length + (o + 1) := i0
        show 2 * (lea x + (1 - 1)) + (nt x + (0 + 1)) + sumT s ≤ l.length + 1 + (o + 1)
        omega
      · by_cases h9 : 9 ≤ c
        · have ho : opn o c = o + 2 := by unfold opn; rw [if_neg h12, if_pos h9]
          rw [ho] at i1 i0
          obtain ⟨x, y, s, e⟩ : ∃ x y s, ev l = x :: y :: s := by
            cases hh : ev l with
            | nil => rw [hh] at i1; simp at i1
            | cons x s =>
              cases s with
              | nil => rw [hh] at i1; simp at i1
              | cons y s => exact ⟨x, y, s, rfl⟩
          rw [ev_bin l h9 h12, e]
          rw [e] at i0
          have i0 : 2 * lea x + nt x + (2 * lea y + nt y + sumT s) ≤ l.length + (o + 2) := i0
          have := tw_mk c x y
          show 2 * lea (mkF c x y) + nt (mkF c x y) + sumT s ≤ l.length + 1 + (o + 1)
          omega
        · have ho : opn o c = o := by unfold opn; rw [if_neg h12, if_neg h9]
          rw [ho] at i0
          rw [ev_leaf l (by omega)]
          show 2 * 1 + 0 + sumT (ev l) ≤ l.length + 1 + (o + 1)
          omega
/-- a formula told by so many words -/
theorem told_tw {l : List Nat} (h : chk l 1) {F : Fm} (e : some F = (ev l)[0]?) (hl : l.length ≤ 30) : 2 * lea F + nt F ≤ 31 := by
  have h1 := ev_tw h
  have h2 := (ev_app h).1
  cases hh : ev l with
  | nil => rw [hh] at h2; simp at h2
  | cons f t =>
    rw [hh] at e h1
    have e : some F = some f := e
    cases e
    have h1 : 2 * lea F + nt F + sumT t ≤ l.length + 1 := h1
    omega
