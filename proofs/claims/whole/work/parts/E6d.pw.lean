/-! HOW LONG the types within a told text are: growth -/
def pE : Nat := 1200
def pS : Nat := 8400
theorem pS_is : pS = pE * 7 := rfl
theorem pE_ne : pE ≠ 0 := by decide
theorem lt_small : ∀ la, la < 1261 → la ^ pS ≤ 210 ^ pS * 4 ^ (833 * ((la + 209) / 210) + 4 * la + 1708) := by decide +kernel
theorem lt_7 : 7 ^ pE ≤ 4 ^ (239 * 7 + 124) := by decide +kernel
theorem lt_87 : 8 ^ pE ≤ 7 ^ pE * 4 ^ 239 := by decide +kernel
theorem lt_N : ∀ n, (n + 7) ^ pE ≤ 4 ^ (239 * (n + 7) + 124) := by
  intro n
  induction n with
  | zero => exact lt_7
  | succ n ih =>
    have h7 : 0 < 7 ^ pE := Nat.pow_pos (by omega)
    refine Nat.le_of_mul_le_mul_right ?_ h7
    have e1 : ((n + 1 + 7) * 7) ^ pE ≤ ((n + 7) * 8) ^ pE := Nat.pow_le_pow_left (by omega) _
    rw [Nat.mul_pow, Nat.mul_pow] at e1
    refine Nat.le_trans e1 ?_
    have e2 := Nat.mul_le_mul ih lt_87
    refine Nat.le_trans e2 (Nat.le_of_eq ?_)
    rw [show 239 * (n + 1 + 7) + 124 = (239 * (n + 7) + 124) + 239 by omega, Nat.pow_add 4 (239 * (n + 7) + 124) 239, Nat.mul_comm (7 ^ pE), Nat.mul_assoc]
theorem lt_pow {la N : Nat} (h : la ≤ 210 * N) : la ^ pS ≤ 210 ^ pS * 4 ^ (833 * N + 4 * la + 1708) := by
  have hN : (la + 209) / 210 ≤ N := by omega
  have mono : ∀ {a b : Nat}, a ≤ b → 210 ^ pS * 4 ^ a ≤ 210 ^ pS * 4 ^ b := fun q => Nat.mul_le_mul_left _ (Nat.pow_le_pow_right (by omega) q)
  by_cases hs : la < 1261
  · exact Nat.le_trans (lt_small la hs) (mono (by omega))
  · obtain ⟨n, hn⟩ : ∃ n, (la + 209) / 210 = n + 7 := ⟨(la + 209) / 210 - 7, by omega⟩
    have e1 : la ^ pS ≤ (210 * (n + 7)) ^ pS := Nat.pow_le_pow_left (by omega) _
    rw [Nat.mul_pow] at e1
    have e2 : (n + 7) ^ pS ≤ 4 ^ ((239 * (n + 7) + 124) * 7) := by
      rw [pS_is, Nat.pow_mul, Nat.pow_mul]
      exact Nat.pow_le_pow_left (lt_N n) 7
    refine Nat.le_trans e1 (Nat.le_trans (Nat.mul_le_mul_left _ e2) (mono (by omega)))
/-- a linear bound, as a power -/
theorem LiV.pw {E V : Nat} {x : Fm} (h : LiV E V x) : (blen x + 5) ^ pE ≤ E ^ pE * 4 ^ (V + 244) := by
  obtain ⟨la, N, h1, h2, h3⟩ := h
  generalize blen x + 5 = m at h1 ⊢
  have e1 : (210 * m) ^ pS ≤ (E * la) ^ pS := Nat.pow_le_pow_left h1 _
  rw [Nat.mul_pow, Nat.mul_pow] at e1
  have e2 : E ^ pS * la ^ pS ≤ E ^ pS * (210 ^ pS * 4 ^ ((V + 244) * 7)) := by
    refine Nat.mul_le_mul_left _ (Nat.le_trans (lt_pow h2) (Nat.mul_le_mul_left _ (Nat.pow_le_pow_right (by omega) (by omega))))
  have e3 : 210 ^ pS * m ^ pS ≤ 210 ^ pS * (E ^ pS * 4 ^ ((V + 244) * 7)) := by
    refine Nat.le_trans e1 (Nat.le_trans e2 (Nat.le_of_eq ?_))
    rw [← Nat.mul_assoc, ← Nat.mul_assoc, Nat.mul_comm (E ^ pS)]
  have e4 := Nat.le_of_mul_le_mul_left e3 (Nat.pow_pos (by omega))
  rw [pS_is, Nat.pow_mul, Nat.pow_mul, Nat.pow_mul, ← Nat.mul_pow] at e4
  exact (Nat.pow_le_pow_iff_left (by omega)).mp e4
/-- the names around an arm -/
theorem let_E {E W : Nat} {x : Fm} (hW : 1 ≤ W) (h : blen x + 5 ≤ E ∨ LiV E (W - 1) x) : ∃ E1, E ≤ E1 ∧ blen x + 5 ≤ E1 ∧ E1 ^ pE ≤ E ^ pE * 4 ^ (W + 243) := by
  have triv : E ^ pE ≤ E ^ pE * 4 ^ (W + 243) := Nat.le_mul_of_pos_right _ (Nat.pow_pos (by omega))
  by_cases q : blen x + 5 ≤ E
  · exact ⟨E, Nat.le_refl _, q, triv⟩
  · have := (h.resolve_left q).pw
    rw [show W - 1 + 244 = W + 243 by omega] at this
    exact ⟨blen x + 5, by omega, Nat.le_refl _, this⟩
/-- short enough -/
def Gw (E w n : Nat) : Prop := n ^ pE ≤ E ^ pE * 4 ^ w
theorem Gw.mono {E w w1 n : Nat} (h : Gw E w n) (hw : w ≤ w1) : Gw E w1 n := Nat.le_trans h (Nat.mul_le_mul_left _ (Nat.pow_le_pow_right (by omega) hw))
theorem Gw.self {E w n : Nat} (h : n ≤ E) : Gw E w n := Nat.le_trans (Nat.pow_le_pow_left h _) (Nat.le_mul_of_pos_right _ (Nat.pow_pos (by omega)))
theorem Gw.le {E w n n1 : Nat} (h : Gw E w n) (hn : n1 ≤ n) : Gw E w n1 := Nat.le_trans (Nat.pow_le_pow_left hn _) h
theorem Gw.up {E E1 w w1 n : Nat} (h : Gw E1 w n) (hE : E1 ^ pE ≤ E ^ pE * 4 ^ w1) : Gw E (w1 + w) n := by
  unfold Gw at h ⊢
  refine Nat.le_trans h (Nat.le_trans (Nat.mul_le_mul_right _ hE) (Nat.le_of_eq ?_))
  rw [Nat.pow_add, Nat.mul_assoc]
theorem naive_ty {h : Nat} {H : Nat → Fm} : ∀ t, isT t → ∀ {E : Nat} {G : Nat → Fm} {d p : Nat} {x : Fm}, 210 ≤ E → (∀ k, k < h → blen (H k) + 5 ≤ E) → LbP (fun f => blen f + 5 ≤ 210) t → (∀ k, k < d → blen (G k) + 5 ≤ E) → Wc (fun _ => True) h H t p G d x → Wc (fun y => Gw E (wg t + 365) (blen y + 5)) h H t p G d x := by
  apply tm_ind
  · intro k E G d p x hE hH _ hG hw
    exact ⟨hw.1, hw.2.1, Gw.self (by rw [hw.2.1]; exact hG k hw.1)⟩
  · intro k E G d p x hE hH _ hG hw
    exact ⟨hw.1, hw.2.1, Gw.self (by rw [hw.2.1]; exact hH k hw.1)⟩
  · intro o f a ho ha ih E G d p x hE hH hL hG hw
    have rt := (lin_ty hE hH (tU o f a) (isT_U ho ha) hL hG hw).1.pw
    have hwg : wg a ≤ wg (tU o f a) := by show wg a ≤ _ + _ + wg a; omega
    rw [LbP_U] at hL
    obtain ⟨-, y, q2, r⟩ := hw
    refine ⟨rt, y, ?_, r⟩
    have hG' : ∀ k, k < d + amN o 0 → blen ((if o = 2 then ups G d f else G) k) + 5 ≤ E := by
      by_cases e : o = 2
      · subst e
        exact ups_P (P := fun f => blen f + 5 ≤ E) hG (Nat.le_trans (hL.1 (Or.inl rfl)) hE)
      · rw [if_neg e, am_2 e]
        exact hG
    exact (ih hE hH hL.2 hG' q2).imp a ha (fun i z _ _ g => g.mono (by omega))
  · intro o a b ho ha hb ia ib E G d p x hE hH hL hG hw
    have rt := (lin_ty hE hH (tB o a b) (isT_B ho ha hb) hL hG hw).1.pw
    have hwg : wg (tB o a b) = (if o = 4 then 121 else 120) + wg a + wg b := rfl
    rw [LbP_B ho] at hL
    obtain ⟨-, y, z, q2, q3, r⟩ := hw
    exact ⟨rt, y, z, (ia hE hH hL.1 hG q2).imp a ha (fun i z _ _ g => g.mono (by omega)), (ib hE hH hL.2 hG q3).imp b hb (fun i z _ _ g => g.mono (by omega)), r⟩
  · intro m a b hm ha hb im ia ib E G d p x hE hH hL hG hw
    have rt := (lin_ty hE hH (tC m a b) (isT_C hm ha hb) hL hG hw).1.pw
    have g1 := wg_ge m hm
    have g2 := wg_ge a ha
    have g3 := wg_ge b hb
    rw [LbP_C] at hL
    obtain ⟨-, y, z, q2, q3, q4⟩ := hw
    obtain ⟨-, i2, -, -⟩ := lin_ty hE hH m hm hL.1 hG q2
    have iy : blen y + 5 ≤ E ∨ LiV E (wg m - 1) y := by
      rcases i2 with i2 | i2
      · exact Or.inl i2.1
      · exact i2.2
    have iz : blen z + 5 ≤ E ∨ LiV E (wg m - 1) z := by
      rcases i2 with i2 | i2
      · exact i2.2
      · exact Or.inl i2.1
    obtain ⟨E1, a1, a2, a3⟩ := let_E (by omega) iy
    obtain ⟨E2, b1, b2, b3⟩ := let_E (by omega) iz
    rw [wg_C] at rt ⊢
    refine ⟨rt, y, z, (im hE hH hL.1 hG q2).imp m hm (fun i z _ _ g => g.mono (by omega)), ?_, ?_⟩
    · exact (ia (Nat.le_trans hE a1) (fun k hk => Nat.le_trans (hH k hk) a1) hL.2.1 (ups_P (P := fun f => blen f + 5 ≤ E1) (fun k hk => Nat.le_trans (hG k hk) a1) a2) q3).imp a ha (fun i z _ _ g => (g.up a3).mono (by omega))
    · exact (ib (Nat.le_trans hE b1) (fun k hk => Nat.le_trans (hH k hk) b1) hL.2.2 (ups_P (P := fun f => blen f + 5 ≤ E2) (fun k hk => Nat.le_trans (hG k hk) b1) b2) q4).imp b hb (fun i z _ _ g => (g.up b3).mono (by omega))
/-- short but for what is kept -/
def Rq (E w X : Nat) (y : Fm) : Prop := ∃ g, blen y + 5 ≤ max X 210 + g ∧ Gw E w g
theorem Rq.mono {E w w1 X X1 : Nat} {y : Fm} (h : Rq E w X y) (hw : w ≤ w1) (hX : X ≤ X1) : Rq E w1 X1 y := by
  obtain ⟨g, h1, h2⟩ := h
  exact ⟨g, by omega, h2.mono hw⟩
theorem Rq.of {E w X : Nat} {y : Fm} (h : Gw E w (blen y + 5)) : Rq E w X y := ⟨blen y + 5, by omega, h⟩
theorem Rq.sm {E w X : Nat} {y : Fm} (h : blen y + 5 ≤ max X 210) : Rq E w X y := ⟨0, by omega, Gw.self (Nat.zero_le _)⟩
theorem Rq.up {E E1 w w1 X : Nat} {y : Fm} (h : Rq E1 w X y) (hE : E1 ^ pE ≤ E ^ pE * 4 ^ w1) : Rq E (w1 + w) X y := by
  obtain ⟨g, h1, h2⟩ := h
  exact ⟨g, h1, h2.up hE⟩
/-- a part that an eliminator keeps -/
def kpt (x x1 : Fm) : Prop := (∃ u, x = .add u x1) ∨ (∃ u, x = .mul x1 u) ∨ ∃ u, x = .mul u x1
set_option maxHeartbeats 1000000 in
theorem ref_ty {h : Nat} {H : Nat → Fm} : ∀ t, isT t → ∀ {E : Nat} {G : Nat → Fm} {d p : Nat} {x : Fm}, 210 ≤ E → (∀ k, k < h → blen (H k) + 5 ≤ E) → LbP (fun f => blen f + 5 ≤ 210) t → (∀ k, k < d → blen (G k) + 5 ≤ E) → Wc (fun _ => True) h H t p G d x → Wc (Rq E (wg t + 127) (blen x + 5)) h H t p G d x ∧ ∀ x1, kpt x x1 → Wc (Rq E (wg t + 247) (blen x1 + 5)) h H t p G d x := by
  apply tm_ind
  · intro k E G d p x hE hH _ hG hw
    have hx : blen x + 5 ≤ E := by rw [hw.2.1]; exact hG k hw.1
    exact ⟨⟨hw.1, hw.2.1, Rq.sm (by omega)⟩, fun x1 _ => ⟨hw.1, hw.2.1, Rq.of (Gw.self hx)⟩⟩
  · intro k E G d p x hE hH _ hG hw
    have hx : blen x + 5 ≤ E := by rw [hw.2.1]; exact hH k hw.1
    exact ⟨⟨hw.1, hw.2.1, Rq.sm (by omega)⟩, fun x1 _ => ⟨hw.1, hw.2.1, Rq.of (Gw.self hx)⟩⟩
  · intro o f a ho ha ih E G d p x hE hH hL hG hw
    have nv1 := naive_ty (tU o f a) (isT_U ho ha) hE hH hL hG hw
    have rt := nv1.root _ (isT_U ho ha)
    rw [LbP_U] at hL
    obtain ⟨-, y, q2, r⟩ := hw
    rcases r with ⟨rfl, rfl⟩ | ⟨rfl, w, rfl⟩ | ⟨rfl, w, rfl⟩ | ⟨rfl, rfl⟩ | ⟨rfl, rfl⟩ | ⟨rfl, rfl, rfl⟩
    · have hf := hL.1 (Or.inl rfl)
      have q2' : Wc (fun _ => True) h H a (p + 1) (ups G d f) (d + 1) y := q2
      obtain ⟨i1, -⟩ := ih hE hH hL.2 (ups_P (P := fun f => blen f + 5 ≤ E) hG (Nat.le_trans hf hE)) q2'
      rw [wg_U2, bl_add]
      refine ⟨Wc_U (o := 2) (Rq.sm (by rw [bl_add]; omega)) (i1.imp a ha (fun i z _ _ g => g.mono (by omega) (by omega))) (Or.inl ⟨rfl, rfl⟩), fun x1 hk => ?_⟩
      have hx1 : x1 = y := by
        rcases hk with ⟨u, e⟩ | ⟨u, e⟩ | ⟨u, e⟩ <;> cases e
        rfl
      subst hx1
      exact Wc_U (o := 2) ⟨blen f + 5, by rw [bl_add]; omega, Gw.self (by omega)⟩ (i1.imp a ha (fun i z _ _ g => g.mono (by omega) (by omega))) (Or.inl ⟨rfl, rfl⟩)
    · obtain ⟨-, i2⟩ := ih hE hH hL.2 hG q2
      have i3 := i2 x (Or.inr (Or.inl ⟨w, rfl⟩))
      have nva := naive_ty a ha hE hH hL.2 hG q2
      rw [wg_U5] at rt ⊢
      refine ⟨Wc_U (o := 5) (Rq.sm (by omega)) (i3.imp a ha (fun i z _ _ g => g.mono (by omega) (by omega))) (Or.inr (Or.inl ⟨rfl, w, rfl⟩)), fun x1 hk => Wc_U (o := 5) (Rq.of ((nva.root a ha).le (by rw [bl_mul]; omega) |>.mono (by omega))) (nva.imp a ha (fun i z _ _ g => Rq.of (g.mono (by omega)))) (Or.inr (Or.inl ⟨rfl, w, rfl⟩))⟩
    · obtain ⟨-, i2⟩ := ih hE hH hL.2 hG q2
      have i3 := i2 x (Or.inr (Or.inr ⟨w, rfl⟩))
      have nva := naive_ty a ha hE hH hL.2 hG q2
      rw [wg_U6] at rt ⊢
      refine ⟨Wc_U (o := 6) (Rq.sm (by omega)) (i3.imp a ha (fun i z _ _ g => g.mono (by omega) (by omega))) (Or.inr (Or.inr (Or.inl ⟨rfl, w, rfl⟩))), fun x1 hk => Wc_U (o := 6) (Rq.of ((nva.root a ha).le (by rw [bl_mul]; omega) |>.mono (by omega))) (nva.imp a ha (fun i z _ _ g => Rq.of (g.mono (by omega)))) (Or.inr (Or.inr (Or.inl ⟨rfl, w, rfl⟩)))⟩
    · obtain ⟨i1, -⟩ := ih hE hH hL.2 hG q2
      rw [wg_U7, bl_sub]
      refine ⟨Wc_U (o := 7) (Rq.sm (by rw [bl_sub]; omega)) (i1.imp a ha (fun i z _ _ g => g.mono (by omega) (by omega))) (Or.inr (Or.inr (Or.inr (Or.inl ⟨rfl, rfl⟩)))), fun x1 hk => ?_⟩
      rcases hk with ⟨u, e⟩ | ⟨u, e⟩ | ⟨u, e⟩ <;> cases e
    · obtain ⟨i1, -⟩ := ih hE hH hL.2 hG q2
      rw [wg_U8, bl_sub]
      refine ⟨Wc_U (o := 8) (Rq.sm (by rw [bl_sub]; omega)) (i1.imp a ha (fun i z _ _ g => g.mono (by omega) (by omega))) (Or.inr (Or.inr (Or.inr (Or.inr (Or.inl ⟨rfl, rfl⟩))))), fun x1 hk => ?_⟩
      rcases hk with ⟨u, e⟩ | ⟨u, e⟩ | ⟨u, e⟩ <;> cases e
    · have hf := hL.1 (Or.inr (Or.inr (Or.inr rfl)))
      obtain ⟨i1, -⟩ := ih hE hH hL.2 hG q2
      have i1 : Wc (Rq E (wg a + 127) 0) h H a (p + 1) G d (.arg 8) := i1.imp a ha (fun i z _ _ ⟨g, g1, g2⟩ => ⟨g, by have : blen (.arg 8) = 2 := rfl; omega, g2⟩)
      rw [wg_UX]
      exact ⟨Wc_U (o := 10) (Rq.sm (by omega)) (i1.imp a ha (fun i z _ _ g => g.mono (by omega) (by omega))) (Or.inr (Or.inr (Or.inr (Or.inr (Or.inr ⟨rfl, rfl, rfl⟩))))), fun x1 _ => Wc_U (o := 10) (Rq.sm (by omega)) (i1.imp a ha (fun i z _ _ g => g.mono (by omega) (by omega))) (Or.inr (Or.inr (Or.inr (Or.inr (Or.inr ⟨rfl, rfl, rfl⟩)))))⟩
  · intro o a b ho ha hb ia ib E G d p x hE hH hL hG hw
    have ga := wg_ge a ha
    have gb := wg_ge b hb
    rw [LbP_B ho] at hL
    obtain ⟨-, y, z, q2, q3, r⟩ := hw
    have na := naive_ty a ha hE hH hL.1 hG q2
    have nb := naive_ty b hb hE hH hL.2 hG q3
    obtain ⟨i1, i2⟩ := ia hE hH hL.1 hG q2
    obtain ⟨j1, -⟩ := ib hE hH hL.2 hG q3
    rcases r with ⟨rfl, rfl⟩ | ⟨rfl, rfl⟩
    · have i3 := i2 x (Or.inl ⟨z, rfl⟩)
      rw [wg_B3]
      exact ⟨Wc_B (o := 3) (Rq.sm (by omega)) (i3.imp a ha (fun i z _ _ g => g.mono (by omega) (by omega))) (nb.imp b hb (fun i z _ _ g => Rq.of (g.mono (by omega)))) (Or.inl ⟨rfl, rfl⟩), fun x1 _ => Wc_B (o := 3) (Rq.of ((na.root a ha).le (by rw [bl_add]; omega) |>.mono (by omega))) (na.imp a ha (fun i z _ _ g => Rq.of (g.mono (by omega)))) (nb.imp b hb (fun i z _ _ g => Rq.of (g.mono (by omega)))) (Or.inl ⟨rfl, rfl⟩)⟩
    · rw [wg_B4, bl_mul]
      refine ⟨Wc_B (o := 4) (Rq.sm (by rw [bl_mul]; omega)) (i1.imp a ha (fun i z _ _ g => g.mono (by omega) (by omega))) (j1.imp b hb (fun i z _ _ g => g.mono (by omega) (by omega))) (Or.inr ⟨rfl, rfl⟩), fun x1 hk => ?_⟩
      rcases hk with ⟨u, e⟩ | ⟨u, e⟩ | ⟨u, e⟩ <;> cases e
      · exact Wc_B (o := 4) ⟨blen z + 5, by rw [bl_mul]; omega, (nb.root b hb).mono (by omega)⟩ (i1.imp a ha (fun i z _ _ g => g.mono (by omega) (by omega))) (nb.imp b hb (fun i z _ _ g => Rq.of (g.mono (by omega)))) (Or.inr ⟨rfl, rfl⟩)
      · exact Wc_B (o := 4) ⟨blen y + 5, by rw [bl_mul]; omega, (na.root a ha).mono (by omega)⟩ (na.imp a ha (fun i z _ _ g => Rq.of (g.mono (by omega)))) (j1.imp b hb (fun i z _ _ g => g.mono (by omega) (by omega))) (Or.inr ⟨rfl, rfl⟩)
  · intro m a b hm ha hb im ia ib E G d p x hE hH hL hG hw
    have g1 := wg_ge m hm
    have g2 := wg_ge a ha
    have g3 := wg_ge b hb
    rw [LbP_C] at hL
    obtain ⟨-, y, z, q2, q3, q4⟩ := hw
    have nm1 := naive_ty m hm hE hH hL.1 hG q2
    obtain ⟨-, i2, -, -⟩ := lin_ty hE hH m hm hL.1 hG q2
    have iy : blen y + 5 ≤ E ∨ LiV E (wg m - 1) y := by
      rcases i2 with i2 | i2
      · exact Or.inl i2.1
      · exact i2.2
    have iz : blen z + 5 ≤ E ∨ LiV E (wg m - 1) z := by
      rcases i2 with i2 | i2
      · exact i2.2
      · exact Or.inl i2.1
    obtain ⟨E1, a1, a2, a3⟩ := let_E (by omega) iy
    obtain ⟨E2, b1, b2, b3⟩ := let_E (by omega) iz
    obtain ⟨ja, ka⟩ := ia (Nat.le_trans hE a1) (fun k hk => Nat.le_trans (hH k hk) a1) hL.2.1 (ups_P (P := fun f => blen f + 5 ≤ E1) (fun k hk => Nat.le_trans (hG k hk) a1) a2) q3
    obtain ⟨jb, kb⟩ := ib (Nat.le_trans hE b1) (fun k hk => Nat.le_trans (hH k hk) b1) hL.2.2 (ups_P (P := fun f => blen f + 5 ≤ E2) (fun k hk => Nat.le_trans (hG k hk) b1) b2) q4
    rw [wg_C]
    refine ⟨Wc_C (Rq.sm (by omega)) (nm1.imp m hm (fun i z _ _ g => Rq.of (g.mono (by omega)))) (ja.imp a ha (fun i z _ _ g => (g.up a3).mono (by omega) (Nat.le_refl _))) (jb.imp b hb (fun i z _ _ g => (g.up b3).mono (by omega) (Nat.le_refl _))), fun x1 hk => ?_⟩
    have ka1 := ka x1 hk
    have kb1 := kb x1 hk
    exact Wc_C (((ka1.root a ha).up a3).mono (by omega) (Nat.le_refl _)) (nm1.imp m hm (fun i z _ _ g => Rq.of (g.mono (by omega)))) (ka1.imp a ha (fun i z _ _ g => (g.up a3).mono (by omega) (Nat.le_refl _))) (kb1.imp b hb (fun i z _ _ g => (g.up b3).mono (by omega) (Nat.le_refl _)))
theorem big_no : 210 ^ pE * 4 ^ (14521 + 127) < 4700000000 ^ pE := by decide +kernel
/-- ALL TYPES of a told text -/
theorem told_ty {h : Nat} {H : Nat → Fm} {t : Tm} (ht : isT t) {x : Fm} (hH : ∀ k, k < h → blen (H k) + 5 ≤ 210) (hL : LbP (fun f => blen f + 5 ≤ 210) t) (hz : sz t ≤ 120) (hg : wg t ≤ 14521) (hw : Wc (fun _ => True) h H t 0 gN 0 x) : blen x ≤ 30000 ∧ Wc (blB 4700030000) h H t 0 gN 0 x := by
  have rt := (root_ty hH t ht hL (fun k hk => by omega) hw).1
  have hx : blen x ≤ 30000 := by
    have : 210 * sz t ≤ 210 * 120 := Nat.mul_le_mul_left _ hz
    omega
  refine ⟨hx, (ref_ty t ht (Nat.le_refl _) hH hL (fun k hk => by omega) hw).1.imp t ht (fun i y _ _ ⟨g, g1, g2⟩ => ?_)⟩
  have g3 : g ^ pE < 4700000000 ^ pE := Nat.lt_of_le_of_lt (g2.mono (show wg t + 127 ≤ 14521 + 127 by omega)) big_no
  have g4 : g < 4700000000 := (Nat.pow_lt_pow_iff_left pE_ne).mp g3
  show blen y ≤ 4700030000
  omega
