/-! A STEP on trees: a term put in another's place, a redex and what it comes to -/
section PLG
variable {s : Tm} {j e : Nat}
/-- all that stands around a place, and what is typed there -/
def Pl (s : Tm) (j e : Nat) (t : Tm) (p d : Nat) (K : Tm → Tm) : Prop := (∀ s', isT s' → isT (K s')) ∧ (∃ x y, rws t = x ++ (rws s ++ y) ∧ p + x.length = j ∧ ∀ s', rws (K s') = x ++ (rws s' ++ y)) ∧ ∀ (h : Nat) (H G : Nat → Fm) (x : Fm), Wc (fun _ => True) h H t p G d x → ∃ Gs y, (∀ Q, Wt Q h H t p G d x → Wt Q h H s j Gs e y) ∧ ∀ P s', isT s' → Wc P h H t p G d x → Wc P h H s' j Gs e y → Wc P h H (K s') p G d x
theorem Pl.id (t : Tm) (p d : Nat) : Pl t p d t p d (fun s => s) := ⟨fun _ h => h, ⟨[], [], by simp, rfl, fun s' => by simp⟩, fun h H G x w => ⟨G, x, fun _ q => q, fun P s' _ _ q => q⟩⟩
theorem Foc.plug : ∀ t, isT t → ∀ {p d : Nat}, Foc s j e t p d → ∃ K, Pl s j e t p d K := by
  apply tm_ind
  · intro k p d ⟨h1, h2, h3⟩; subst h1 h2 h3; exact ⟨_, Pl.id _ _ _⟩
  · intro k p d ⟨h1, h2, h3⟩; subst h1 h2 h3; exact ⟨_, Pl.id _ _ _⟩
  · intro o f a ho ha ih p d h
    rcases h with ⟨h1, h2, h3⟩ | h
    · subst h1 h2 h3; exact ⟨_, Pl.id _ _ _⟩
    · obtain ⟨K, k1, ⟨x, y, k2, k3, k4⟩, k5⟩ := ih h
      refine ⟨fun s' => tU o f (K s'), fun s' hs => isT_U ho (k1 s' hs), ⟨(o, f) :: x, y, ?_, ?_, fun s' => ?_⟩, fun h H G x w => ?_⟩
      · rw [rws_U, k2]; rfl
      · simp only [List.length_cons]; omega
      · rw [rws_U, k4]; rfl
      · obtain ⟨q1, z, q2, q3⟩ := w
        obtain ⟨Gs, y1, g1, g2⟩ := k5 h H _ _ q2
        refine ⟨Gs, y1, fun Q ⟨r1, z', r2, r3⟩ => ?_, fun P s' hs ⟨r1, z', r2, r3⟩ hw => ?_⟩
        · cases Wt.fn a ha r2 q2
          exact g1 Q r2
        · cases Wt.fn a ha r2 q2
          exact Wc_U r1 (g2 P s' hs r2 hw) r3
  · intro o a b ho ha hb ia ib p d h
    rcases h with ⟨h1, h2, h3⟩ | h | h
    · subst h1 h2 h3; exact ⟨_, Pl.id _ _ _⟩
    · obtain ⟨K, k1, ⟨x, y, k2, k3, k4⟩, k5⟩ := ia h
      refine ⟨fun s' => tB o (K s') b, fun s' hs => isT_B ho (k1 s' hs) hb, ⟨(o, .null) :: x, y ++ rws b, ?_, ?_, fun s' => ?_⟩, fun h H G x w => ?_⟩
      · rw [rws_B, k2]; simp
      · simp only [List.length_cons]; omega
      · rw [rws_B, k4]; simp
      · obtain ⟨q1, u, z, q2, q3, q4⟩ := w
        obtain ⟨Gs, y1, g1, g2⟩ := k5 h H _ _ q2
        refine ⟨Gs, y1, fun Q ⟨r1, u', z', r2, r3, r4⟩ => ?_, fun P s' hs ⟨r1, u', z', r2, r3, r4⟩ hw => ?_⟩
        · cases Wt.fn a ha r2 q2
          exact g1 Q r2
        · cases Wt.fn a ha r2 q2
          exact Wc_B r1 (g2 P s' hs r2 hw) (Wt.pos b hb r3) r4
    · obtain ⟨K, k1, ⟨x, y, k2, k3, k4⟩, k5⟩ := ib h
      refine ⟨fun s' => tB o a (K s'), fun s' hs => isT_B ho ha (k1 s' hs), ⟨(o, .null) :: (rws a ++ x), y, ?_, ?_, fun s' => ?_⟩, fun h H G x w => ?_⟩
      · rw [rws_B, k2]; simp
      · simp only [List.length_cons, List.length_append]; unfold sz at k3; omega
      · rw [rws_B, k4]; simp
      · obtain ⟨q1, u, z, q2, q3, q4⟩ := w
        obtain ⟨Gs, y1, g1, g2⟩ := k5 h H _ _ q3
        refine ⟨Gs, y1, fun Q ⟨r1, u', z', r2, r3, r4⟩ => ?_, fun P s' hs ⟨r1, u', z', r2, r3, r4⟩ hw => ?_⟩
        · cases Wt.fn b hb r3 q3
          exact g1 Q r3
        · cases Wt.fn b hb r3 q3
          exact Wc_B r1 r2 (g2 P s' hs r3 hw) r4
  · intro m a b hm ha hb im ia ib p d h
    rcases h with ⟨h1, h2, h3⟩ | h | h | h
    · subst h1 h2 h3; exact ⟨_, Pl.id _ _ _⟩
    · obtain ⟨K, k1, ⟨x, y, k2, k3, k4⟩, k5⟩ := im h
      refine ⟨fun s' => tC (K s') a b, fun s' hs => isT_C (k1 s' hs) ha hb, ⟨(9, .null) :: x, y ++ (rws a ++ rws b), ?_, ?_, fun s' => ?_⟩, fun h H G x w => ?_⟩
      · rw [rws_C, k2]; simp
      · simp only [List.length_cons]; omega
      · rw [rws_C, k4]; simp
      · obtain ⟨q1, u, z, q2, q3, q4⟩ := w
        obtain ⟨Gs, y1, g1, g2⟩ := k5 h H _ _ q2
        refine ⟨Gs, y1, fun Q ⟨r1, u', z', r2, r3, r4⟩ => ?_, fun P s' hs ⟨r1, u', z', r2, r3, r4⟩ hw => ?_⟩
        · cases Wt.fn m hm r2 q2
          exact g1 Q r2
        · cases Wt.fn m hm r2 q2
          exact Wc_C r1 (g2 P s' hs r2 hw) (Wt.pos a ha r3) (Wt.pos b hb r4)
    · obtain ⟨K, k1, ⟨x, y, k2, k3, k4⟩, k5⟩ := ia h
      refine ⟨fun s' => tC m (K s') b, fun s' hs => isT_C hm (k1 s' hs) hb, ⟨(9, .null) :: (rws m ++ x), y ++ rws b, ?_, ?_, fun s' => ?_⟩, fun h H G x w => ?_⟩
      · rw [rws_C, k2]; simp
      · simp only [List.length_cons, List.length_append]; unfold sz at k3; omega
      · rw [rws_C, k4]; simp
      · obtain ⟨q1, u, z, q2, q3, q4⟩ := w
        obtain ⟨Gs, y1, g1, g2⟩ := k5 h H _ _ q3
        refine ⟨Gs, y1, fun Q ⟨r1, u', z', r2, r3, r4⟩ => ?_, fun P s' hs ⟨r1, u', z', r2, r3, r4⟩ hw => ?_⟩
        · cases Wt.fn m hm r2 q2
          exact g1 Q r3
        · cases Wt.fn m hm r2 q2
          exact Wc_C r1 r2 (g2 P s' hs r3 hw) (Wt.pos b hb r4)
    · obtain ⟨K, k1, ⟨x, y, k2, k3, k4⟩, k5⟩ := ib h
      refine ⟨fun s' => tC m a (K s'), fun s' hs => isT_C hm ha (k1 s' hs), ⟨(9, .null) :: (rws m ++ (rws a ++ x)), y, ?_, ?_, fun s' => ?_⟩, fun h H G x w => ?_⟩
      · rw [rws_C, k2]; simp
      · simp only [List.length_cons, List.length_append]; unfold sz at k3; omega
      · rw [rws_C, k4]; simp
      · obtain ⟨q1, u, z, q2, q3, q4⟩ := w
        obtain ⟨Gs, y1, g1, g2⟩ := k5 h H _ _ q4
        refine ⟨Gs, y1, fun Q ⟨r1, u', z', r2, r3, r4⟩ => ?_, fun P s' hs ⟨r1, u', z', r2, r3, r4⟩ hw => ?_⟩
        · cases Wt.fn m hm r2 q2
          exact g1 Q r4
        · cases Wt.fn m hm r2 q2
          exact Wc_C r1 r2 r3 (g2 P s' hs r4 hw)
end PLG
/-- what a redex of a kind comes to, under e names, if it proves y -/
def Cn (e : Nat) (y : Fm) (k : Nat) (s s' : Tm) : Prop :=
  (k = 1 ∧ ∃ f a u, s = tB 3 (tU 2 f a) u ∧ s' = sbs e u a (e + 1)) ∨
  (k = 2 ∧ ∃ f a b, s = tU 5 f (tB 4 a b) ∧ s' = a) ∨
  (k = 3 ∧ ∃ f a b, s = tU 6 f (tB 4 a b) ∧ s' = b) ∨
  (k = 4 ∧ ∃ f a l r, s = tC (tU 7 f a) l r ∧ s' = sbs e a l (e + 1)) ∨
  (k = 5 ∧ ∃ f a l r, s = tC (tU 8 f a) l r ∧ s' = sbs e a r (e + 1)) ∨
  (k = 6 ∧ ∃ m a b, (∃ u, s = tB 3 (tC m a b) u ∧ s' = tC m (tB 3 a (lft e 1 u)) (tB 3 b (lft e 1 u))) ∨ (∃ o f, (o = 5 ∨ o = 6 ∨ o = 10) ∧ s = tU o f (tC m a b) ∧ s' = tC m (tU o f a) (tU o f b)) ∨ (∃ l r, s = tC (tC m a b) l r ∧ s' = tC m (tC a (lft e 1 l) (lft e 1 r)) (tC b (lft e 1 l) (lft e 1 r)))) ∨
  (k = 7 ∧ ∃ g a, s' = tU 10 y a ∧ ((∃ u, s = tB 3 (tU 10 g a) u) ∨ (∃ o f, (o = 5 ∨ o = 6 ∨ o = 10) ∧ s = tU o f (tU 10 g a)) ∨ (∃ l r, s = tC (tU 10 g a) l r)))
/-- a node's first word -/
def ort (t : Tm) : Nat := opl (rws t) 0
theorem ort_cs : ∀ t, isT t → ((∃ k, t = tL k ∨ t = tH k) ∧ ort t = 1) ∨ (∃ o f a, t = tU o f a ∧ ort t = o) ∨ (∃ o a b, t = tB o a b ∧ (o = 3 ∨ o = 4) ∧ ort t = o) ∨ ∃ m a b, t = tC m a b ∧ ort t = 9 := by
  apply tm_ind
  · intro k; exact Or.inl ⟨⟨k, Or.inl rfl⟩, rfl⟩
  · intro k; exact Or.inl ⟨⟨k, Or.inr rfl⟩, rfl⟩
  · intro o f a _ _ _; exact Or.inr (Or.inl ⟨o, f, a, rfl, rfl⟩)
  · intro o a b ho _ _ _ _; exact Or.inr (Or.inr (Or.inl ⟨o, a, b, rfl, ho, rfl⟩))
  · intro m a b _ _ _ _ _ _; exact Or.inr (Or.inr (Or.inr ⟨m, a, b, rfl, rfl⟩))
theorem ort_C {t : Tm} (ht : isT t) (h : ort t = 9) : ∃ m a b, t = tC m a b := by
  rcases ort_cs t ht with ⟨-, q⟩ | ⟨o, f, a, rfl, q⟩ | ⟨o, a, b, rfl, ho, q⟩ | ⟨m, a, b, q, -⟩
  · omega
  · have := ht.1.rng; omega
  · omega
  · exact ⟨m, a, b, q⟩
theorem ort_U {t : Tm} (ht : isT t) {o : Nat} (h : ort t = o) (ho : o = 2 ∨ o = 5 ∨ o = 6 ∨ o = 7 ∨ o = 8 ∨ o = 10) : ∃ f a, t = tU o f a := by
  rcases ort_cs t ht with ⟨-, q⟩ | ⟨o1, f, a, rfl, q⟩ | ⟨o1, a, b, rfl, ho1, q⟩ | ⟨m, a, b, rfl, q⟩
  · omega
  · have : o1 = o := by omega
    subst this
    exact ⟨f, a, rfl⟩
  · omega
  · omega
theorem ort_B {t : Tm} (ht : isT t) {o : Nat} (h : ort t = o) (ho : o = 3 ∨ o = 4) : ∃ a b, t = tB o a b := by
  rcases ort_cs t ht with ⟨-, q⟩ | ⟨o1, f, a, rfl, q⟩ | ⟨o1, a, b, rfl, ho1, q⟩ | ⟨m, a, b, rfl, q⟩
  · omega
  · have := ht.1.rng; omega
  · have : o1 = o := by omega
    subst this
    exact ⟨a, b, rfl⟩
  · omega
theorem opl_app {l r : List (Nat × Tm)} {i : Nat} (h : i < l.length) : opl (l ++ r) i = opl l i := by
  unfold opl
  rw [List.getElem?_append_left h]
def or2 (t : Tm) : Nat := opl (rws t) 1
theorem or2_U {o : Nat} {f a : Tm} : or2 (tU o f a) = ort a := rfl
theorem or2_B {o : Nat} {a b : Tm} (ha : isT a) : or2 (tB o a b) = ort a := opl_app (sz_pos a ha)
theorem or2_C {m a b : Tm} (ha : isT m) : or2 (tC m a b) = ort m := opl_app (sz_pos m ha)
theorem Cn_ex {s : Tm} (hs : isT s) {k : Nat} (hk : rdk (ort s) (or2 s) = k) (h0 : k ≠ 0) (e : Nat) (y : Fm) : ∃ s', Cn e y k s s' := by
  rcases ort_cs s hs with ⟨-, q⟩ | ⟨o, f, a, rfl, q⟩ | ⟨o, a, b, rfl, ho, q⟩ | ⟨m, a, b, rfl, q⟩
  · rw [q] at hk
    unfold rdk at hk
    rw [if_neg (by omega)] at hk
    omega
  · have ha := hs.2
    have hr := hs.1.rng
    rw [q, or2_U] at hk
    unfold rdk at hk
    split at hk
    · split at hk
      · obtain ⟨m, x, z, rfl⟩ := ort_C ha (by assumption)
        exact ⟨_, Or.inr (Or.inr (Or.inr (Or.inr (Or.inr (Or.inl ⟨hk.symm, m, x, z, Or.inr (Or.inl ⟨o, f, by omega, rfl, rfl⟩)⟩)))))⟩
      · split at hk
        · obtain ⟨g, x, rfl⟩ := ort_U ha (by assumption) (by omega)
          exact ⟨_, Or.inr (Or.inr (Or.inr (Or.inr (Or.inr (Or.inr ⟨hk.symm, g, x, rfl, Or.inr (Or.inl ⟨o, f, by omega, rfl⟩)⟩)))))⟩
        · rw [if_neg (by omega)] at hk
          split at hk
          · rename_i hq
            obtain ⟨x, z, rfl⟩ := ort_B ha hq.2 (by omega)
            obtain ⟨rfl, -⟩ := hq
            exact ⟨_, Or.inr (Or.inl ⟨hk.symm, f, x, z, rfl, rfl⟩)⟩
          · split at hk
            · rename_i hq
              obtain ⟨x, z, rfl⟩ := ort_B ha hq.2 (by omega)
              obtain ⟨rfl, -⟩ := hq
              exact ⟨_, Or.inr (Or.inr (Or.inl ⟨hk.symm, f, x, z, rfl, rfl⟩))⟩
            · rw [if_neg (by omega), if_neg (by omega)] at hk
              omega
    · omega
  · have ha := hs.2.1
    rw [q, or2_B ha] at hk
    unfold rdk at hk
    split at hk
    · have ho3 : o = 3 := by omega
      subst ho3
      split at hk
      · obtain ⟨m, x, z, rfl⟩ := ort_C ha (by assumption)
        exact ⟨_, Or.inr (Or.inr (Or.inr (Or.inr (Or.inr (Or.inl ⟨hk.symm, m, x, z, Or.inl ⟨b, rfl, rfl⟩⟩)))))⟩
      · split at hk
        · obtain ⟨g, x, rfl⟩ := ort_U ha (by assumption) (by omega)
          exact ⟨_, Or.inr (Or.inr (Or.inr (Or.inr (Or.inr (Or.inr ⟨hk.symm, g, x, rfl, Or.inl ⟨b, rfl⟩⟩)))))⟩
        · split at hk
          · rename_i hq
            obtain ⟨g, x, rfl⟩ := ort_U ha hq.2 (by omega)
            exact ⟨_, Or.inl ⟨hk.symm, g, x, b, rfl, rfl⟩⟩
          · rw [if_neg (by omega), if_neg (by omega), if_neg (by omega), if_neg (by omega)] at hk
            omega
    · omega
  · have hm := hs.1
    rw [q, or2_C hm] at hk
    unfold rdk at hk
    rw [if_pos (by omega)] at hk
    split at hk
    · obtain ⟨n, x, z, rfl⟩ := ort_C hm (by assumption)
      exact ⟨_, Or.inr (Or.inr (Or.inr (Or.inr (Or.inr (Or.inl ⟨hk.symm, n, x, z, Or.inr (Or.inr ⟨a, b, rfl, rfl⟩)⟩)))))⟩
    · split at hk
      · obtain ⟨g, x, rfl⟩ := ort_U hm (by assumption) (by omega)
        exact ⟨_, Or.inr (Or.inr (Or.inr (Or.inr (Or.inr (Or.inr ⟨hk.symm, g, x, rfl, Or.inr (Or.inr ⟨a, b, rfl⟩)⟩)))))⟩
      · rw [if_neg (by omega), if_neg (by omega), if_neg (by omega)] at hk
        split at hk
        · rename_i hq
          obtain ⟨g, x, rfl⟩ := ort_U hm hq.2 (by omega)
          exact ⟨_, Or.inr (Or.inr (Or.inr (Or.inl ⟨hk.symm, g, x, a, b, rfl, rfl⟩)))⟩
        · split at hk
          · rename_i hq
            obtain ⟨g, x, rfl⟩ := ort_U hm hq.2 (by omega)
            exact ⟨_, Or.inr (Or.inr (Or.inr (Or.inr (Or.inl ⟨hk.symm, g, x, a, b, rfl, rfl⟩))))⟩
          · omega
theorem uOk_10 (y : Tm) : uOk 10 y := Or.inl (Or.inr (Or.inr (Or.inr rfl)))
theorem Cn.tm {e k : Nat} {y : Fm} {s s' : Tm} (hs : isT s) (h : Cn e y k s s') : isT s' := by
  rcases h with ⟨-, f, a, u, rfl, rfl⟩ | ⟨-, f, a, b, rfl, rfl⟩ | ⟨-, f, a, b, rfl, rfl⟩ | ⟨-, f, a, l, r, rfl, rfl⟩ | ⟨-, f, a, l, r, rfl, rfl⟩ | ⟨-, m, a, b, ⟨u, rfl, rfl⟩ | ⟨o, f, ho, rfl, rfl⟩ | ⟨l, r, rfl, rfl⟩⟩ | ⟨-, g, a, rfl, ⟨u, rfl⟩ | ⟨o, f, ho, rfl⟩ | ⟨l, r, rfl⟩⟩
  · exact isT_sbs hs.2.2 a hs.2.1.2 _
  · exact hs.2.2.1
  · exact hs.2.2.2
  · exact isT_sbs hs.1.2 l hs.2.1 _
  · exact isT_sbs hs.1.2 r hs.2.2 _
  · obtain ⟨-, ⟨h1, h2, h3⟩, h4⟩ := hs
    exact isT_C h1 (isT_B (Or.inl rfl) h2 (isT_lft u h4)) (isT_B (Or.inl rfl) h3 (isT_lft u h4))
  · obtain ⟨h0, h1, h2, h3⟩ := hs
    exact isT_C h1 (isT_U h0 h2) (isT_U h0 h3)
  · obtain ⟨⟨h1, h2, h3⟩, h4, h5⟩ := hs
    exact isT_C h1 (isT_C h2 (isT_lft l h4) (isT_lft r h5)) (isT_C h3 (isT_lft l h4) (isT_lft r h5))
  · exact isT_U (uOk_10 y) hs.2.1.2
  · exact isT_U (uOk_10 y) hs.2.2
  · exact isT_U (uOk_10 y) hs.1.2
section CNW
variable {P : Fm → Prop} {h : Nat} {H : Nat → Fm}
theorem Wc_U0 {o : Nat} (e : o ≠ 2) {f a : Tm} {p : Nat} {G : Nat → Fm} {d : Nat} {x : Fm} : Wc P h H (tU o f a) p G d x ↔ P x ∧ ∃ y, Wc P h H a (p + 1) G d y ∧ rU o f y x := by
  have ea : amN o 0 = 0 := by unfold amN; rw [if_neg e, if_neg (by omega)]
  constructor
  · intro ⟨q1, y, q2, q3⟩
    rw [if_neg e, ea] at q2
    exact ⟨q1, y, q2, q3⟩
  · intro ⟨q1, y, q2, q3⟩
    refine Wc_U q1 ?_ q3
    rw [if_neg e, ea]
    exact q2
theorem ups_lo {G : Nat → Fm} {e : Nat} {f : Fm} : ∀ k, k < e → ups G e f k = G k := fun k hk => ups_ne _ _ (by omega)
/-- the types are kept -/
theorem Cn.wt {e k j : Nat} {y : Fm} {s s' : Tm} {G : Nat → Fm} (hs : isT s) (hc : Cn e y k s s') (hw : Wc P h H s j G e y) : Wc P h H s' j G e y := by
  rcases hc with ⟨-, f, a, u, rfl, rfl⟩ | ⟨-, f, a, b, rfl, rfl⟩ | ⟨-, f, a, b, rfl, rfl⟩ | ⟨-, f, a, l, r, rfl, rfl⟩ | ⟨-, f, a, l, r, rfl, rfl⟩ | ⟨-, m, a, b, ⟨u, rfl, rfl⟩ | ⟨o, f, ho, rfl, rfl⟩ | ⟨l, r, rfl, rfl⟩⟩ | ⟨-, g, a, rfl, ⟨u, rfl⟩ | ⟨o, f, ho, rfl⟩ | ⟨l, r, rfl⟩⟩
  · obtain ⟨-, ⟨-, ha⟩, hu⟩ := hs
    obtain ⟨q1, y1, z1, ⟨q2, y2, q3, q4⟩, q5, q6⟩ := hw
    have e1 : y1 = .add f y2 := by simpa [rU] using q4
    have e2 : y1 = .add z1 y := by simpa [rB] using q6
    rw [e1] at e2
    cases e2
    have := Wt_sbs (d := e) (G2 := G) (p2 := j) hu q5 a ha (Nat.le_refl _) (by rw [if_pos rfl, ups_at]) (fun _ _ => rfl) (fun k h1 h2 => by omega) (fun k hk => by rw [if_pos rfl]; exact ups_lo k hk) q3
    exact this
  · obtain ⟨-, -, ha, hb⟩ := hs
    obtain ⟨q1, y1, q2, q3⟩ := (Wc_U0 (by omega)).mp hw
    obtain ⟨w, e1⟩ : ∃ w, y1 = .mul y w := by simpa [rU] using q3
    obtain ⟨r1, y2, z2, r2, r3, r4⟩ := q2
    have e2 : y1 = .mul y2 z2 := by simpa [rB] using r4
    rw [e1] at e2
    cases e2
    exact Wt.pos s' ha r2
  · obtain ⟨-, -, ha, hb⟩ := hs
    obtain ⟨q1, y1, q2, q3⟩ := (Wc_U0 (by omega)).mp hw
    obtain ⟨w, e1⟩ : ∃ w, y1 = .mul w y := by simpa [rU] using q3
    obtain ⟨r1, y2, z2, r2, r3, r4⟩ := q2
    have e2 : y1 = .mul y2 z2 := by simpa [rB] using r4
    rw [e1] at e2
    cases e2
    exact Wt.pos s' hb r3
  · obtain ⟨⟨-, ha⟩, hl, hr⟩ := hs
    obtain ⟨q1, y1, z1, q2, q3, q4⟩ := hw
    obtain ⟨r1, y2, r2, r3⟩ := (Wc_U0 (by omega)).mp q2
    have e1 : y1 = y2 ∧ z1 = f := by simpa [rU] using r3
    obtain ⟨rfl, rfl⟩ := e1
    exact Wt_sbs (d := e) (G2 := G) (p2 := j) ha r2 l hl (Nat.le_refl _) (ups_at _ _ _) (fun _ _ => rfl) (fun k h1 h2 => by omega) ups_lo q3
  · obtain ⟨⟨-, ha⟩, hl, hr⟩ := hs
    obtain ⟨q1, y1, z1, q2, q3, q4⟩ := hw
    obtain ⟨r1, y2, r2, r3⟩ := (Wc_U0 (by omega)).mp q2
    have e1 : y1 = f ∧ z1 = y2 := by simpa [rU] using r3
    obtain ⟨rfl, rfl⟩ := e1
    exact Wt_sbs (d := e) (G2 := G) (p2 := j) ha r2 r hr (Nat.le_refl _) (ups_at _ _ _) (fun _ _ => rfl) (fun k h1 h2 => by omega) ups_lo q4
  · obtain ⟨-, ⟨hm, ha, hb⟩, hu⟩ := hs
    obtain ⟨q1, y1, z1, ⟨q2, y2, z2, q3, q4, q5⟩, q6, q7⟩ := hw
    have L : ∀ {f : Fm} {p2 : Nat}, Wc P h H (lft e 1 u) p2 (ups G e f) (e + 1) z1 := Wt_lft u hu (Nat.le_refl _) ups_lo (fun k h1 h2 => by omega) q6
    exact Wc_C q1 (Wt.pos m hm q3) (Wc_B q1 (Wt.pos a ha q4) L q7) (Wc_B q1 (Wt.pos b hb q5) L q7)
  · obtain ⟨h0, hm, ha, hb⟩ := hs
    obtain ⟨q1, y1, ⟨q2, y2, z2, q3, q4, q5⟩, q6⟩ := (Wc_U0 (show o ≠ 2 by omega)).mp hw
    exact Wc_C q1 (Wt.pos m hm q3) ((Wc_U0 (show o ≠ 2 by omega)).mpr ⟨q1, y1, Wt.pos a ha q4, q6⟩) ((Wc_U0 (show o ≠ 2 by omega)).mpr ⟨q1, y1, Wt.pos b hb q5, q6⟩)
  · obtain ⟨⟨hm, ha, hb⟩, hl, hr⟩ := hs
    obtain ⟨q1, y1, z1, ⟨q2, y2, z2, q3, q4, q5⟩, q6, q7⟩ := hw
    have L : ∀ {t : Tm}, isT t → ∀ {f g : Fm} {p p2 : Nat}, Wc P h H t p (ups G e g) (e + 1) y → Wc P h H (lft e 1 t) p2 (ups (ups G e f) (e + 1) g) (e + 1 + 1) y := by
      intro t ht f g p p2 w
      refine Wt_lft t ht (Nat.le_succ _) (fun k hk => ?_) (fun k h1 h2 => ?_) w
      · rw [ups_ne _ _ (by omega), ups_lo k hk, ups_lo k hk]
      · have : k = e := by omega
        subst this
        rw [ups_at, ups_at]
    exact Wc_C q1 (Wt.pos m hm q3) (Wc_C q1 (Wt.pos a ha q4) (L hl q6) (L hr q7)) (Wc_C q1 (Wt.pos b hb q5) (L hl q6) (L hr q7))
  · obtain ⟨-, ⟨-, ha⟩, hu⟩ := hs
    obtain ⟨q1, y1, z1, q2, q6, q7⟩ := hw
    obtain ⟨r1, y2, r2, r3⟩ := (Wc_U0 (by omega)).mp q2
    have e1 : y2 = .arg 8 ∧ y1 = g := by simpa [rU] using r3
    exact (Wc_U0 (by omega)).mpr ⟨q1, y2, Wt.pos a ha r2, by simp [rU, e1.1]⟩
  · obtain ⟨h0, -, ha⟩ := hs
    obtain ⟨q1, y1, q2, q3⟩ := (Wc_U0 (show o ≠ 2 by omega)).mp hw
    obtain ⟨r1, y2, r2, r3⟩ := (Wc_U0 (by omega)).mp q2
    have e1 : y2 = .arg 8 ∧ y1 = g := by simpa [rU] using r3
    exact (Wc_U0 (by omega)).mpr ⟨q1, y2, Wt.pos a ha r2, by simp [rU, e1.1]⟩
  · obtain ⟨⟨-, ha⟩, hl, hr⟩ := hs
    obtain ⟨q1, y1, z1, q2, q6, q7⟩ := hw
    obtain ⟨r1, y2, r2, r3⟩ := (Wc_U0 (by omega)).mp q2
    have e1 : y2 = .arg 8 ∧ Jvm.Term.sub y1 z1 = g := by simpa [rU] using r3
    exact (Wc_U0 (by omega)).mpr ⟨q1, y2, Wt.pos a ha r2, by simp [rU, e1.1]⟩
end CNW
/-- a step of a term: its kind, and what comes of it -/
def StT (h : Nat) (H : Nat → Fm) (t : Tm) (k : Nat) (t' : Tm) : Prop := ∃ j s e Gs y s' K x, frx (rws t) (sz t) 0 = some j ∧ rdl (rws t) j = k ∧ k ≠ 0 ∧ isT s ∧ Foc s j e t 0 0 ∧ Pl s j e t 0 0 K ∧ Wc (fun _ => True) h H t 0 gN 0 x ∧ (∀ Q, Wt Q h H t 0 gN 0 x → Wt Q h H s j Gs e y) ∧ (∀ P s', isT s' → Wc P h H t 0 gN 0 x → Wc P h H s' j Gs e y → Wc P h H (K s') 0 gN 0 x) ∧ Cn e y k s s' ∧ t' = K s'
theorem opl_sb {l : List (Nat × Tm)} {j i : Nat} {s : Tm} (h : Sb l j s) (hi : i < sz s) : opl l (j + i) = opl (rws s) i := by
  obtain ⟨x, y, rfl, hx⟩ := h
  unfold opl
  rw [List.getElem?_append_right (by omega), show j + i - x.length = i by omega, List.getElem?_append_left hi]
theorem rdk_0 (o : Nat) (h : o = 0 ∨ o = 1 ∨ o = 2 ∨ o = 4 ∨ o = 7 ∨ o = 8) (i : Nat) : rdk o i = 0 := by
  unfold rdk
  rw [if_neg (by omega)]
theorem rdl_sb {l : List (Nat × Tm)} {j : Nat} {s : Tm} (hs : isT s) (h : Sb l j s) (hk : rdl l j ≠ 0) : rdl l j = rdk (ort s) (or2 s) := by
  have e0 := opl_sb h (i := 0) (sz_pos s hs)
  unfold rdl at hk ⊢
  have e0' : opl l j = ort s := e0
  rw [e0'] at hk ⊢
  rcases ort_cs s hs with ⟨-, q⟩ | ⟨o, f, a, rfl, q⟩ | ⟨o, a, b, rfl, ho, q⟩ | ⟨m, a, b, rfl, q⟩
  · rw [q, rdk_0 1 (by omega)] at hk
    exact absurd rfl hk
  · rw [opl_sb h (i := 1) (by rw [sz_U]; have := sz_pos a hs.2; omega)]
    rfl
  · rw [opl_sb h (i := 1) (by rw [sz_B]; have := sz_pos a hs.2.1; omega)]
    rfl
  · rw [opl_sb h (i := 1) (by rw [sz_C]; have := sz_pos m hs.1; omega)]
    rfl
theorem StT.ex {h : Nat} {H : Nat → Fm} {t : Tm} {x : Fm} {j : Nat} (ht : isT t) (hw : Wc (fun _ => True) h H t 0 gN 0 x) (hj : frx (rws t) (sz t) 0 = some j) : ∃ k t', StT h H t k t' := by
  rcases frx_is (rws t) (sz t) 0 with ⟨q, -⟩ | ⟨j', h1, h2, h3, h4, h5⟩
  · rw [q] at hj; cases hj
  · rw [h4] at hj
    have hjj : j' = j := Option.some.inj hj
    subst hjj
    obtain ⟨s, e, hs, hF⟩ := Foc.ex t ht 0 (Nat.zero_le j') (show j' < 0 + sz t from h2)
    obtain ⟨K, hP⟩ := hF.plug t ht
    obtain ⟨Gs, y, g1, g2⟩ := hP.2.2 h H gN x hw
    have hr := rdl_sb hs (hF.sb ht Sb.self) h3
    obtain ⟨s', hc⟩ := Cn_ex hs hr.symm h3 e y
    exact ⟨_, _, j', s, e, Gs, y, s', K, x, h4, rfl, h3, hs, hF, hP, hw, g1, g2, hc, rfl⟩
theorem StT.tm {h : Nat} {H : Nat → Fm} {t t' : Tm} {k : Nat} (hs : StT h H t k t') : isT t' := by
  obtain ⟨j, s, e, Gs, y, s', K, x, h1, h2, h3, h4, h5, h6, h7, h8, h9, h10, rfl⟩ := hs
  exact h6.1 s' (h10.tm h4)
/-- types are kept by a step -/
theorem StT.wt {h : Nat} {H : Nat → Fm} {t t' : Tm} {k : Nat} (ht : isT t) (hs : StT h H t k t') {P : Fm → Prop} {x : Fm} (hw : Wc P h H t 0 gN 0 x) : Wc P h H t' 0 gN 0 x := by
  obtain ⟨j, s, e, Gs, y, s', K, x1, h1, h2, h3, h4, h5, h6, h7, h8, h9, h10, rfl⟩ := hs
  cases Wt.fn t ht hw h7
  exact h9 P s' (h10.tm h4) hw (h10.wt h4 (h8 _ hw))
