/-! A PROOF in place of a hypothesis: trees -/
def hbs (k : Nat) (s : Tm) : Tm → Nat → Tm
  | .index j, _ => .index j
  | .arg j, d => if j = k then lft 0 d s else .arg j
  | .elem (.rem (.index o) f) a, d => .elem (.rem (.index o) f) (hbs k s a (d + amN o 0))
  | .div (.rem (.index o) a) b, d => .div (.rem (.index o) (hbs k s a d)) (hbs k s b d)
  | .sub (.rem m a) b, d => .sub (.rem (hbs k s m d) (hbs k s a (d + 1))) (hbs k s b (d + 1))
  | t, _ => t
def cnh (k : Nat) : Tm → Nat
  | .arg j => if j = k then 1 else 0
  | .elem (.rem (.index _) _) a => cnh k a
  | .div (.rem (.index _) a) b => cnh k a + cnh k b
  | .sub (.rem m a) b => cnh k m + cnh k a + cnh k b
  | _ => 0
section HBS
variable {k j d o : Nat} {f a b m s : Tm}
theorem hbs_L : hbs k s (tL j) d = tL j := by rw [hbs]
theorem hbs_H : hbs k s (tH j) d = if j = k then lft 0 d s else tH j := by rw [hbs]
theorem hbs_U : hbs k s (tU o f a) d = tU o f (hbs k s a (d + amN o 0)) := by rw [hbs]
theorem hbs_B : hbs k s (tB o a b) d = tB o (hbs k s a d) (hbs k s b d) := by rw [hbs]
theorem hbs_C : hbs k s (tC m a b) d = tC (hbs k s m d) (hbs k s a (d + 1)) (hbs k s b (d + 1)) := by rw [hbs]
theorem isT_hbs (hs : isT s) : ∀ t, isT t → ∀ d, isT (hbs k s t d) := by
  apply tm_ind
  · intro j d; rw [hbs_L]; exact trivial
  · intro j d
    rw [hbs_H]
    split
    · exact isT_lft s hs
    · exact trivial
  · intro o f a ho _ ih d; rw [hbs_U]; exact isT_U ho (ih _)
  · intro o a b ho _ _ ia ib d; rw [hbs_B]; exact isT_B ho (ia _) (ib _)
  · intro m a b _ _ _ im ia ib d; rw [hbs_C]; exact isT_C (im _) (ia _) (ib _)
theorem sz_hbs (hs : isT s) : ∀ t, isT t → ∀ d, sz (hbs k s t d) + cnh k t = sz t + cnh k t * sz s := by
  apply tm_ind
  · intro j d; rw [hbs_L]; show 1 + 0 = 1 + 0 * sz s; omega
  · intro j d
    rw [hbs_H]
    show _ + (if j = k then 1 else 0) = 1 + (if j = k then 1 else 0) * _
    split
    · rw [sz_lft s hs]; omega
    · show 1 + 0 = 1 + 0 * sz s; omega
  · intro o f a ho _ ih d
    rw [hbs_U, sz_U, sz_U]
    show _ + cnh k a = _ + cnh k a * _
    have := ih (d + amN o 0)
    omega
  · intro o a b ho _ _ ia ib d
    rw [hbs_B, sz_B, sz_B]
    show _ + (cnh k a + cnh k b) = _ + (cnh k a + cnh k b) * _
    have h1 := ia d
    have h2 := ib d
    rw [Nat.add_mul]
    omega
  · intro m a b _ _ _ im ia ib d
    rw [hbs_C, sz_C, sz_C]
    show _ + (cnh k m + cnh k a + cnh k b) = _ + (cnh k m + cnh k a + cnh k b) * _
    have h1 := im d
    have h2 := ia (d + 1)
    have h3 := ib (d + 1)
    rw [Nat.add_mul, Nat.add_mul]
    omega
theorem cnh_le : ∀ t, isT t → cnh k t ≤ sz t := by
  apply tm_ind
  · intro j; exact Nat.zero_le _
  · intro j
    show (if j = k then 1 else 0) ≤ 1
    split <;> omega
  · intro o f a _ _ ih; rw [sz_U]; show cnh k a ≤ _; omega
  · intro o a b _ _ _ ia ib; rw [sz_B]; show cnh k a + cnh k b ≤ _; omega
  · intro m a b _ _ _ im ia ib; rw [sz_C]; show cnh k m + cnh k a + cnh k b ≤ _; omega
theorem Wt_hbs {P : Fm → Prop} {h : Nat} {H : Nat → Fm} {q : Nat} (hs : isT s) (hw : Wc P h H s q gN 0 (H k)) : ∀ t, isT t → ∀ {G : Nat → Fm} {d p p2 : Nat} {y : Fm}, Wc P h H t p G d y → Wc P h H (hbs k s t d) p2 G d y := by
  apply tm_ind
  · intro j G d p p2 y w
    rw [hbs_L]
    exact w
  · intro j G d p p2 y w
    rw [hbs_H]
    by_cases e : j = k
    · rw [if_pos e]
      have e2 : y = H k := by rw [← e]; exact w.2.1
      have := Wt_lft (w := d) (p2 := p2) (G2 := G) s hs (Nat.le_refl 0) (fun k hk => by omega) (fun k h1 h2 => by omega) hw
      rw [Nat.zero_add] at this
      rw [e2]
      exact this
    · rw [if_neg e]
      exact w
  · intro o f a _ _ ih G d p p2 y ⟨q1, y1, q2, q3⟩
    rw [hbs_U]
    exact Wc_U q1 (ih q2) q3
  · intro o a b _ _ _ ia ib G d p p2 y ⟨q1, y1, z1, q2, q3, q4⟩
    rw [hbs_B]
    exact Wc_B q1 (ia q2) (ib q3) q4
  · intro m a b _ _ _ im ia ib G d p p2 y ⟨q1, y1, z1, q2, q3, q4⟩
    rw [hbs_C]
    exact Wc_C q1 (im q2) (ia q3) (ib q4)
end HBS
