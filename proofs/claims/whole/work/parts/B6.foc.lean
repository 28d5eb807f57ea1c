/-! STEPS on trees: levels lifted, a term put for a level, a place in a term -/
def lfl (lv w : Nat) : Tm → Tm
  | .index k => if lv ≤ k then .index (k + w) else .index k
  | t => t
def lfn (lv w : Nat) (nd : Nat × Tm) : Nat × Tm := if nd.1 = 1 then (1, lfl lv w nd.2) else nd
def lft (lv w : Nat) : Tm → Tm
  | .index k => if lv ≤ k then .index (k + w) else .index k
  | .arg k => .arg k
  | .elem (.rem (.index o) f) a => .elem (.rem (.index o) f) (lft lv w a)
  | .div (.rem (.index o) a) b => .div (.rem (.index o) (lft lv w a)) (lft lv w b)
  | .sub (.rem m a) b => .sub (.rem (lft lv w m) (lft lv w a)) (lft lv w b)
  | t => t
def sbs (lv : Nat) (s : Tm) : Tm → Nat → Tm
  | .index k, d => if k = lv then lft lv (d - 1 - lv) s else if lv < k then .index (k - 1) else .index k
  | .arg k, _ => .arg k
  | .elem (.rem (.index o) f) a, d => .elem (.rem (.index o) f) (sbs lv s a (d + amN o 0))
  | .div (.rem (.index o) a) b, d => .div (.rem (.index o) (sbs lv s a d)) (sbs lv s b d)
  | .sub (.rem m a) b, d => .sub (.rem (sbs lv s m d) (sbs lv s a (d + 1))) (sbs lv s b (d + 1))
  | t, _ => t
section LFT
variable {lv w o k d : Nat} {f a b m s : Tm}
theorem lft_L : lft lv w (tL k) = if lv ≤ k then tL (k + w) else tL k := by rw [lft]
theorem lft_H : lft lv w (tH k) = tH k := by rw [lft]
theorem lft_U : lft lv w (tU o f a) = tU o f (lft lv w a) := by rw [lft]
theorem lft_B : lft lv w (tB o a b) = tB o (lft lv w a) (lft lv w b) := by rw [lft]
theorem lft_C : lft lv w (tC m a b) = tC (lft lv w m) (lft lv w a) (lft lv w b) := by rw [lft]
theorem sbs_L : sbs lv s (tL k) d = if k = lv then lft lv (d - 1 - lv) s else if lv < k then tL (k - 1) else tL k := by rw [sbs]
theorem sbs_H : sbs lv s (tH k) d = tH k := by rw [sbs]
theorem sbs_U : sbs lv s (tU o f a) d = tU o f (sbs lv s a (d + amN o 0)) := by rw [sbs]
theorem sbs_B : sbs lv s (tB o a b) d = tB o (sbs lv s a d) (sbs lv s b d) := by rw [sbs]
theorem sbs_C : sbs lv s (tC m a b) d = tC (sbs lv s m d) (sbs lv s a (d + 1)) (sbs lv s b (d + 1)) := by rw [sbs]
end LFT
theorem isT_U {o : Nat} {f a : Tm} (h1 : uOk o f) (h2 : isT a) : isT (tU o f a) := ⟨h1, h2⟩
theorem isT_B {o : Nat} {a b : Tm} (h1 : o = 3 ∨ o = 4) (h2 : isT a) (h3 : isT b) : isT (tB o a b) := ⟨h1, h2, h3⟩
theorem isT_C {m a b : Tm} (h1 : isT m) (h2 : isT a) (h3 : isT b) : isT (tC m a b) := ⟨h1, h2, h3⟩
theorem isT_lft {lv w : Nat} : ∀ t, isT t → isT (lft lv w t) := by
  apply tm_ind
  · intro k; rw [lft_L]; split <;> exact trivial
  · intro k; rw [lft_H]; exact trivial
  · intro o f a ho _ ih; rw [lft_U]; exact isT_U ho ih
  · intro o a b ho _ _ ia ib; rw [lft_B]; exact isT_B ho ia ib
  · intro m a b _ _ _ im ia ib; rw [lft_C]; exact isT_C im ia ib
theorem isT_sbs {lv : Nat} {s : Tm} (hs : isT s) : ∀ t, isT t → ∀ d, isT (sbs lv s t d) := by
  apply tm_ind
  · intro k d
    rw [sbs_L]
    split
    · exact isT_lft s hs
    · split <;> exact trivial
  · intro k d; rw [sbs_H]; exact trivial
  · intro o f a ho _ ih d; rw [sbs_U]; exact isT_U ho (ih _)
  · intro o a b ho _ _ ia ib d; rw [sbs_B]; exact isT_B ho (ia _) (ib _)
  · intro m a b _ _ _ im ia ib d; rw [sbs_C]; exact isT_C (im _) (ia _) (ib _)
theorem lfn_1 {lv w : Nat} {f : Tm} : lfn lv w (1, f) = (1, lfl lv w f) := rfl
theorem lfn_n {lv w o : Nat} {f : Tm} (h : o ≠ 1) : lfn lv w (o, f) = (o, f) := if_neg h
theorem rws_lft {lv w : Nat} : ∀ t, isT t → rws (lft lv w t) = (rws t).map (lfn lv w) := by
  apply tm_ind
  · intro k
    rw [lft_L, rws_L, List.map_cons, List.map_nil, lfn_1]
    show rws (if lv ≤ k then tL (k + w) else tL k) = [(1, if lv ≤ k then tL (k + w) else tL k)]
    split <;> rfl
  · intro k; rw [lft_H, rws_H]; rfl
  · intro o f a ho _ ih
    have := ho.rng
    rw [lft_U, rws_U, rws_U, List.map_cons, lfn_n (by omega), ih]
  · intro o a b ho _ _ ia ib
    rw [lft_B, rws_B, rws_B, List.map_cons, lfn_n (by omega), List.map_append, ia, ib]
  · intro m a b _ _ _ im ia ib
    rw [lft_C, rws_C, rws_C, List.map_cons, lfn_n (by omega), List.map_append, List.map_append, im, ia, ib]
theorem sz_lft {lv w : Nat} (t : Tm) (ht : isT t) : sz (lft lv w t) = sz t := by
  unfold sz
  rw [rws_lft t ht, List.length_map]
def cn1 (lv : Nat) : Tm → Nat
  | .index k => if k = lv then 1 else 0
  | .elem (.rem (.index _) _) a => cn1 lv a
  | .div (.rem (.index _) a) b => cn1 lv a + cn1 lv b
  | .sub (.rem m a) b => cn1 lv m + cn1 lv a + cn1 lv b
  | _ => 0
theorem sz_sbs {lv : Nat} {s : Tm} (hs : isT s) : ∀ t, isT t → ∀ d, sz (sbs lv s t d) + cn1 lv t = sz t + cn1 lv t * sz s := by
  apply tm_ind
  · intro k d
    rw [sbs_L]
    show _ + (if k = lv then 1 else 0) = 1 + (if k = lv then 1 else 0) * _
    split
    · rw [sz_lft s hs]; omega
    · split
      · show 1 + 0 = 1 + 0 * sz s; omega
      · show 1 + 0 = 1 + 0 * sz s; omega
  · intro k d; rw [sbs_H]; show 1 + 0 = 1 + 0 * sz s; omega
  · intro o f a ho _ ih d
    rw [sbs_U, sz_U, sz_U]
    show _ + cn1 lv a = _ + cn1 lv a * _
    have := ih (d + amN o 0)
    omega
  · intro o a b ho _ _ ia ib d
    rw [sbs_B, sz_B, sz_B]
    show _ + (cn1 lv a + cn1 lv b) = _ + (cn1 lv a + cn1 lv b) * _
    have h1 := ia d
    have h2 := ib d
    rw [Nat.add_mul]
    omega
  · intro m a b _ _ _ im ia ib d
    rw [sbs_C, sz_C, sz_C]
    show _ + (cn1 lv m + cn1 lv a + cn1 lv b) = _ + (cn1 lv m + cn1 lv a + cn1 lv b) * _
    have h1 := im d
    have h2 := ia (d + 1)
    have h3 := ib (d + 1)
    rw [Nat.add_mul, Nat.add_mul]
    omega
section WTS
variable {P : Fm → Prop} {h : Nat} {H : Nat → Fm}
abbrev Wc (P : Fm → Prop) (h : Nat) (H : Nat → Fm) (t : Tm) (p : Nat) (G : Nat → Fm) (d : Nat) (x : Fm) : Prop := Wt (fun _ f => P f) h H t p G d x
theorem Wc_U {o : Nat} {f a : Tm} {p : Nat} {G : Nat → Fm} {d : Nat} {x y : Fm} (h1 : P x) (h2 : Wc P h H a (p + 1) (if o = 2 then ups G d f else G) (d + amN o 0) y) (h3 : rU o f y x) : Wc P h H (tU o f a) p G d x := ⟨h1, y, h2, h3⟩
theorem Wc_B {o : Nat} {a b : Tm} {p : Nat} {G : Nat → Fm} {d : Nat} {x y z : Fm} (h1 : P x) (h2 : Wc P h H a (p + 1) G d y) (h3 : Wc P h H b (p + 1 + sz a) G d z) (h4 : rB o y z x) : Wc P h H (tB o a b) p G d x := ⟨h1, y, z, h2, h3, h4⟩
theorem Wc_C {m a b : Tm} {p : Nat} {G : Nat → Fm} {d : Nat} {x y z : Fm} (h1 : P x) (h2 : Wc P h H m (p + 1) G d (.sub y z)) (h3 : Wc P h H a (p + 1 + sz m) (ups G d y) (d + 1) x) (h4 : Wc P h H b (p + 1 + sz m + sz a) (ups G d z) (d + 1) x) : Wc P h H (tC m a b) p G d x := ⟨h1, y, z, h2, h3, h4⟩
theorem ups_sh {G G2 : Nat → Fm} {lv w d : Nat} {f : Fm} (hd : lv ≤ d) (h1 : ∀ k, k < lv → G2 k = G k) (h2 : ∀ k, lv ≤ k → k < d → G2 (k + w) = G k) : (∀ k, k < lv → ups G2 (d + w) f k = ups G d f k) ∧ ∀ k, lv ≤ k → k < d + 1 → ups G2 (d + w) f (k + w) = ups G d f k := by
  refine ⟨fun k hk => ?_, fun k hk hk2 => ?_⟩
  · rw [ups_ne _ _ (by omega), ups_ne _ _ (by omega)]
    exact h1 k hk
  · by_cases e : k = d
    · rw [e, ups_at, ups_at]
    · rw [ups_ne _ _ (by omega), ups_ne _ _ e]
      exact h2 k hk (by omega)
theorem Wt_lft {lv w : Nat} : ∀ t, isT t → ∀ {G G2 : Nat → Fm} {d p p2 : Nat} {x : Fm}, lv ≤ d → (∀ k, k < lv → G2 k = G k) → (∀ k, lv ≤ k → k < d → G2 (k + w) = G k) → Wc P h H t p G d x → Wc P h H (lft lv w t) p2 G2 (d + w) x := by
  apply tm_ind
  · intro k G G2 d p p2 x hd h1 h2 ⟨q1, q2, q3⟩
    rw [lft_L]
    split
    · rename_i hk
      exact ⟨by omega, q2.trans (h2 k hk q1).symm, q3⟩
    · exact ⟨by omega, q2.trans (h1 k (by omega)).symm, q3⟩
  · intro k G G2 d p p2 x hd h1 h2 q
    rw [lft_H]
    exact q
  · intro o f a ho _ ih G G2 d p p2 x hd h1 h2 ⟨q1, y, q2, q3⟩
    rw [lft_U]
    by_cases e : o = 2
    · subst e
      have hs := ups_sh (f := f) hd h1 h2
      refine Wc_U q1 ?_ q3
      have := ih (p2 := p2 + 1) (show lv ≤ d + 1 by omega) hs.1 hs.2 q2
      rw [show d + w + amN 2 0 = d + 1 + w from by show d + w + 1 = _; omega]
      exact this
    · have ea : amN o 0 = 0 := by unfold amN; rw [if_neg e, if_neg (by omega)]
      rw [if_neg e, ea] at q2
      refine Wc_U q1 ?_ q3
      rw [if_neg e, ea]
      exact ih hd h1 h2 q2
  · intro o a b ho _ _ ia ib G G2 d p p2 x hd h1 h2 ⟨q1, y, z, q2, q3, q4⟩
    rw [lft_B]
    exact Wc_B q1 (ia hd h1 h2 q2) (ib hd h1 h2 q3) q4
  · intro m a b _ _ _ im ia ib G G2 d p p2 x hd h1 h2 ⟨q1, y, z, q2, q3, q4⟩
    rw [lft_C]
    have s1 := ups_sh (f := y) hd h1 h2
    have s2 := ups_sh (f := z) hd h1 h2
    refine Wc_C q1 (im hd h1 h2 q2) ?_ ?_
    · rw [show d + w + 1 = d + 1 + w by omega]
      exact ia (by omega) s1.1 s1.2 q3
    · rw [show d + w + 1 = d + 1 + w by omega]
      exact ib (by omega) s2.1 s2.2 q4
theorem Wt.pos : ∀ t, isT t → ∀ {G : Nat → Fm} {d p p2 : Nat} {x : Fm}, Wc P h H t p G d x → Wc P h H t p2 G d x := by
  apply tm_ind
  · intro k G d p p2 x q; exact q
  · intro k G d p p2 x q; exact q
  · intro o f a _ _ ih G d p p2 x ⟨q1, y, q2, q3⟩; exact Wc_U q1 (ih q2) q3
  · intro o a b _ _ _ ia ib G d p p2 x ⟨q1, y, z, q2, q3, q4⟩; exact Wc_B q1 (ia q2) (ib q3) q4
  · intro m a b _ _ _ im ia ib G d p p2 x ⟨q1, y, z, q2, q3, q4⟩; exact Wc_C q1 (im q2) (ia q3) (ib q4)
theorem ups_sb {G G2 Gs : Nat → Fm} {lv d : Nat} {f x : Fm} (hd : lv ≤ d) (h0 : G lv = x) (h1 : ∀ k, k < lv → G2 k = Gs k) (h2 : ∀ k, lv < k → k < d + 1 → G2 (k - 1) = G k) (h3 : ∀ k, k < lv → G k = Gs k) : ups G (d + 1) f lv = x ∧ (∀ k, k < lv → ups G2 d f k = Gs k) ∧ (∀ k, lv < k → k < d + 1 + 1 → ups G2 d f (k - 1) = ups G (d + 1) f k) ∧ ∀ k, k < lv → ups G (d + 1) f k = Gs k := by
  refine ⟨?_, fun k hk => ?_, fun k hk hk2 => ?_, fun k hk => ?_⟩
  · rw [ups_ne _ _ (by omega)]; exact h0
  · rw [ups_ne _ _ (by omega)]; exact h1 k hk
  · by_cases e : k = d + 1
    · rw [e, ups_at, show d + 1 - 1 = d by omega, ups_at]
    · rw [ups_ne _ _ (by omega), ups_ne _ _ e]; exact h2 k hk (by omega)
  · rw [ups_ne _ _ (by omega)]; exact h3 k hk
theorem Wt_sbs {lv q : Nat} {s : Tm} {Gs : Nat → Fm} {x : Fm} (hs : isT s) (hw : Wc P h H s q Gs lv x) : ∀ t, isT t → ∀ {G G2 : Nat → Fm} {d p p2 : Nat} {y : Fm}, lv ≤ d → G lv = x → (∀ k, k < lv → G2 k = Gs k) → (∀ k, lv < k → k < d + 1 → G2 (k - 1) = G k) → (∀ k, k < lv → G k = Gs k) → Wc P h H t p G (d + 1) y → Wc P h H (sbs lv s t (d + 1)) p2 G2 d y := by
  apply tm_ind
  · intro k G G2 d p p2 y hd h0 h1 h2 h3 ⟨q1, q2, q3⟩
    rw [sbs_L]
    by_cases e : k = lv
    · rw [if_pos e]
      rw [e, h0] at q2
      have := Wt_lft (w := d + 1 - 1 - lv) (p2 := p2) s hs (Nat.le_refl lv) h1 (fun k hk hk2 => by omega) hw
      rw [show lv + (d + 1 - 1 - lv) = d by omega] at this
      rw [q2]
      exact this
    · rw [if_neg e]
      split
      · rename_i hk
        exact ⟨by omega, q2.trans (h2 k hk q1).symm, q3⟩
      · exact ⟨by omega, q2.trans ((h3 k (by omega)).trans (h1 k (by omega)).symm), q3⟩
  · intro k G G2 d p p2 y hd h0 h1 h2 h3 q
    rw [sbs_H]
    exact q
  · intro o f a ho _ ih G G2 d p p2 y hd h0 h1 h2 h3 ⟨q1, y1, q2, q3⟩
    rw [sbs_U]
    by_cases e : o = 2
    · subst e
      obtain ⟨g0, g1, g2, g3⟩ := ups_sb (f := f) hd h0 h1 h2 h3
      refine Wc_U q1 ?_ q3
      have := ih (p2 := p2 + 1) (d := d + 1) (by omega) g0 g1 g2 g3 q2
      exact this
    · have ea : amN o 0 = 0 := by unfold amN; rw [if_neg e, if_neg (by omega)]
      rw [if_neg e, ea] at q2
      refine Wc_U q1 ?_ q3
      rw [if_neg e, ea]
      exact ih hd h0 h1 h2 h3 q2
  · intro o a b ho _ _ ia ib G G2 d p p2 y hd h0 h1 h2 h3 ⟨q1, y1, z1, q2, q3, q4⟩
    rw [sbs_B]
    exact Wc_B q1 (ia hd h0 h1 h2 h3 q2) (ib hd h0 h1 h2 h3 q3) q4
  · intro m a b _ _ _ im ia ib G G2 d p p2 y hd h0 h1 h2 h3 ⟨q1, y1, z1, q2, q3, q4⟩
    rw [sbs_C]
    obtain ⟨g0, g1, g2, g3⟩ := ups_sb (f := y1) hd h0 h1 h2 h3
    obtain ⟨g4, g5, g6, g7⟩ := ups_sb (f := z1) hd h0 h1 h2 h3
    exact Wc_C q1 (im hd h0 h1 h2 h3 q2) (ia (d := d + 1) (by omega) g0 g1 g2 g3 q3) (ib (d := d + 1) (by omega) g4 g5 g6 g7 q4)
/-- typed terms have names that are told -/
theorem Wt.sco {Q : Nat → Fm → Prop} (hh : h ≤ 6) : ∀ t, isT t → ∀ {G : Nat → Fm} {d p : Nat} {x : Fm}, Wt Q h H t p G d x → scp t d ∧ shp h t := by
  apply tm_ind
  · intro k G d p x q; exact ⟨q.1, trivial⟩
  · intro k G d p x q; exact ⟨Nat.lt_of_lt_of_le q.1 hh, q.1⟩
  · intro o f a _ _ ih G d p x ⟨q1, y, q2, q3⟩; exact ih q2
  · intro o a b _ _ _ ia ib G d p x ⟨q1, y, z, q2, q3, q4⟩; exact ⟨⟨(ia q2).1, (ib q3).1⟩, ⟨(ia q2).2, (ib q3).2⟩⟩
  · intro m a b _ _ _ im ia ib G d p x ⟨q1, y, z, q2, q3, q4⟩; exact ⟨⟨(im q2).1, (ia q3).1, (ib q4).1⟩, ⟨(im q2).2, (ia q3).2, (ib q4).2⟩⟩
end WTS
/-- a term stands in another at a place, under so many names -/
def Foc (s : Tm) (j e : Nat) : Tm → Nat → Nat → Prop
  | .elem (.rem (.index o) f) a, p, d => (s = .elem (.rem (.index o) f) a ∧ j = p ∧ e = d) ∨ Foc s j e a (p + 1) (d + amN o 0)
  | .div (.rem (.index o) a) b, p, d => (s = .div (.rem (.index o) a) b ∧ j = p ∧ e = d) ∨ Foc s j e a (p + 1) d ∨ Foc s j e b (p + 1 + sz a) d
  | .sub (.rem m a) b, p, d => (s = .sub (.rem m a) b ∧ j = p ∧ e = d) ∨ Foc s j e m (p + 1) d ∨ Foc s j e a (p + 1 + sz m) (d + 1) ∨ Foc s j e b (p + 1 + sz m + sz a) (d + 1)
  | t, p, d => s = t ∧ j = p ∧ e = d
theorem Foc.ex : ∀ t, isT t → ∀ {j p : Nat} (d : Nat), p ≤ j → j < p + sz t → ∃ s e, isT s ∧ Foc s j e t p d := by
  apply tm_ind
  · intro k j p d h1 h2; rw [sz_L] at h2; exact ⟨tL k, d, trivial, rfl, by omega, rfl⟩
  · intro k j p d h1 h2; rw [sz_H] at h2; exact ⟨tH k, d, trivial, rfl, by omega, rfl⟩
  · intro o f a ho ha ih j p d h1 h2
    rw [sz_U] at h2
    by_cases e : j = p
    · exact ⟨tU o f a, d, isT_U ho ha, Or.inl ⟨rfl, e, rfl⟩⟩
    · obtain ⟨s, e1, g1, g2⟩ := ih (d + amN o 0) (show p + 1 ≤ j by omega) (by omega)
      exact ⟨s, e1, g1, Or.inr g2⟩
  · intro o a b ho ha hb ia ib j p d h1 h2
    rw [sz_B] at h2
    by_cases e : j = p
    · exact ⟨tB o a b, d, isT_B ho ha hb, Or.inl ⟨rfl, e, rfl⟩⟩
    · by_cases e2 : j < p + 1 + sz a
      · obtain ⟨s, e1, g1, g2⟩ := ia d (show p + 1 ≤ j by omega) e2
        exact ⟨s, e1, g1, Or.inr (Or.inl g2)⟩
      · obtain ⟨s, e1, g1, g2⟩ := ib d (show p + 1 + sz a ≤ j by omega) (by omega)
        exact ⟨s, e1, g1, Or.inr (Or.inr g2)⟩
  · intro m a b hm ha hb im ia ib j p d h1 h2
    rw [sz_C] at h2
    by_cases e : j = p
    · exact ⟨tC m a b, d, isT_C hm ha hb, Or.inl ⟨rfl, e, rfl⟩⟩
    · by_cases e2 : j < p + 1 + sz m
      · obtain ⟨s, e1, g1, g2⟩ := im d (show p + 1 ≤ j by omega) e2
        exact ⟨s, e1, g1, Or.inr (Or.inl g2)⟩
      · by_cases e3 : j < p + 1 + sz m + sz a
        · obtain ⟨s, e1, g1, g2⟩ := ia (d + 1) (show p + 1 + sz m ≤ j by omega) e3
          exact ⟨s, e1, g1, Or.inr (Or.inr (Or.inl g2))⟩
        · obtain ⟨s, e1, g1, g2⟩ := ib (d + 1) (show p + 1 + sz m + sz a ≤ j by omega) (by omega)
          exact ⟨s, e1, g1, Or.inr (Or.inr (Or.inr g2))⟩
/-- what goes down a tree comes to every place in it -/
theorem Foc.go {C : Tm → Nat → Nat → Prop} (hU : ∀ o f a p d, C (tU o f a) p d → C a (p + 1) (d + amN o 0)) (hB : ∀ o a b p d, C (tB o a b) p d → C a (p + 1) d ∧ C b (p + 1 + sz a) d) (hC : ∀ m a b p d, C (tC m a b) p d → C m (p + 1) d ∧ C a (p + 1 + sz m) (d + 1) ∧ C b (p + 1 + sz m + sz a) (d + 1)) {s : Tm} {j e : Nat} : ∀ t, isT t → ∀ {p d : Nat}, Foc s j e t p d → C t p d → C s j e := by
  apply tm_ind
  · intro k p d ⟨h1, h2, h3⟩ hc; subst h1 h2 h3; exact hc
  · intro k p d ⟨h1, h2, h3⟩ hc; subst h1 h2 h3; exact hc
  · intro o f a _ _ ih p d h hc
    rcases h with ⟨h1, h2, h3⟩ | h
    · subst h1 h2 h3; exact hc
    · exact ih h (hU _ _ _ _ _ hc)
  · intro o a b _ _ _ ia ib p d h hc
    rcases h with ⟨h1, h2, h3⟩ | h | h
    · subst h1 h2 h3; exact hc
    · exact ia h (hB _ _ _ _ _ hc).1
    · exact ib h (hB _ _ _ _ _ hc).2
  · intro m a b _ _ _ im ia ib p d h hc
    rcases h with ⟨h1, h2, h3⟩ | h | h | h
    · subst h1 h2 h3; exact hc
    · exact im h (hC _ _ _ _ _ hc).1
    · exact ia h (hC _ _ _ _ _ hc).2.1
    · exact ib h (hC _ _ _ _ _ hc).2.2
section FOC
variable {s t : Tm} {j e p d : Nat}
theorem Foc.ed {M : Mem} (ht : isT t) (h : Foc s j e t p d) (g : Ed M t p) : Ed M s j := Foc.go (C := fun t p _ => Ed M t p) (fun _ _ _ _ _ q => q.2) (fun _ _ _ _ _ q => q.2) (fun _ _ _ _ _ q => q.2) t ht h g
theorem Foc.ly {M : Mem} (ht : isT t) (h : Foc s j e t p d) {pa : Int32} {r n : Nat} {A : Nat → Nat} (g : Ly M t p d pa r n A) : ∃ pa r n A, Ly M s j e pa r n A := Foc.go (C := fun t p d => ∃ pa r n A, Ly M t p d pa r n A) (fun _ _ _ _ _ ⟨_, _, _, _, q⟩ => ⟨_, _, _, _, q.2⟩) (fun _ _ _ _ _ ⟨_, _, _, _, q⟩ => ⟨⟨_, _, _, _, q.2.1⟩, ⟨_, _, _, _, q.2.2⟩⟩) (fun _ _ _ _ _ ⟨_, _, _, _, q⟩ => ⟨⟨_, _, _, _, q.2.1⟩, ⟨_, _, _, _, q.2.2.1⟩, ⟨_, _, _, _, q.2.2.2⟩⟩) t ht h ⟨_, _, _, _, g⟩
theorem Foc.dp {M : Mem} (ht : isT t) (h : Foc s j e t p d) (g : DpR M t p d) : DpR M s j e := Foc.go (C := fun t p d => DpR M t p d) (fun _ _ _ _ _ q => q.2) (fun _ _ _ _ _ q => q.2) (fun _ _ _ _ _ q => q.2) t ht h g
theorem Foc.sb {l : List (Nat × Tm)} (ht : isT t) (h : Foc s j e t p d) (g : Sb l p t) : Sb l j s := Foc.go (C := fun t p _ => Sb l p t) (fun _ _ _ _ _ q => q.U.2) (fun _ _ _ _ _ q => q.B.2) (fun _ _ _ _ _ q => q.C.2) t ht h g
theorem Foc.sco (ht : isT t) (h : Foc s j e t p d) (g : scp t d) : scp s e := Foc.go (C := fun t _ d => scp t d) (fun _ _ _ _ _ q => q) (fun _ _ _ _ _ q => q) (fun _ _ _ _ _ q => q) t ht h g
theorem Foc.le (ht : isT t) (h : Foc s j e t p d) (hd : d ≤ p) : e ≤ j := Foc.go (C := fun _ p d => d ≤ p) (fun o _ _ _ _ q => by have := amN_le o 0; omega) (fun _ _ _ _ _ q => ⟨by omega, by omega⟩) (fun _ _ _ _ _ q => ⟨by omega, by omega, by omega⟩) t ht h hd
end FOC
