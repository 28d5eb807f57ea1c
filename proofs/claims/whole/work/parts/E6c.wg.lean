/-! HOW LONG the types within a told text are: weights -/
def tx (f : Fm) : Nat := max 2 ((4 * (blen f + 5) - 5) / 7)
theorem tx_lo (f : Fm) : 4 * (blen f + 5) ≤ 7 * tx f + 11 ∧ 2 ≤ tx f := by unfold tx; omega
theorem tx_hi {f : Fm} {B : Nat} (h1 : 4 * (blen f + 5) ≤ 7 * B + 11) (h2 : 2 ≤ B) : tx f ≤ B := by unfold tx; omega
/-- nodes and text of a term -/
def wg : Tm → Nat
  | .elem (.rem (.index o) f) a => (if o = 2 ∨ o = 10 then 122 else 120) + (if o = 2 ∨ o = 7 ∨ o = 8 ∨ o = 10 then tx f else 0) + wg a
  | .div (.rem (.index o) a) b => (if o = 4 then 121 else 120) + wg a + wg b
  | .sub (.rem m a) b => 125 + wg m + wg a + wg b
  | _ => 118
theorem wg_U2 {f a : Tm} : wg (tU 2 f a) = 122 + tx f + wg a := rfl
theorem wg_U5 {f a : Tm} : wg (tU 5 f a) = 120 + 0 + wg a := rfl
theorem wg_U6 {f a : Tm} : wg (tU 6 f a) = 120 + 0 + wg a := rfl
theorem wg_U7 {f a : Tm} : wg (tU 7 f a) = 120 + tx f + wg a := rfl
theorem wg_U8 {f a : Tm} : wg (tU 8 f a) = 120 + tx f + wg a := rfl
theorem wg_UX {f a : Tm} : wg (tU 10 f a) = 122 + tx f + wg a := rfl
theorem wg_B3 {a b : Tm} : wg (tB 3 a b) = 120 + wg a + wg b := rfl
theorem wg_B4 {a b : Tm} : wg (tB 4 a b) = 121 + wg a + wg b := rfl
theorem wg_C {m a b : Tm} : wg (tC m a b) = 125 + wg m + wg a + wg b := rfl
theorem wg_ge : ∀ t, isT t → 118 ≤ wg t := by
  apply tm_ind
  · intro k; exact Nat.le_refl _
  · intro k; exact Nat.le_refl _
  · intro o f a _ _ ih
    show 118 ≤ _ + _ + wg a
    omega
  · intro o a b _ _ _ ia ib
    show 118 ≤ _ + wg a + wg b
    omega
  · intro m a b _ _ _ im ia ib
    rw [wg_C]; omega
def LiV (E V : Nat) (x : Fm) : Prop := ∃ la N, 210 * (blen x + 5) ≤ E * la ∧ la ≤ 210 * N ∧ 833 * N + 4 * la ≤ 7 * V
theorem LiV.mono {E V V1 : Nat} {x : Fm} (h : LiV E V x) (hV : V ≤ V1) : LiV E V1 x := by
  obtain ⟨la, N, h1, h2, h3⟩ := h
  exact ⟨la, N, h1, h2, by omega⟩
theorem LiV.le {E V : Nat} {x y : Fm} (h : LiV E V x) (hV : blen y ≤ blen x) : LiV E V y := by
  obtain ⟨la, N, h1, h2, h3⟩ := h
  exact ⟨la, N, by omega, h2, h3⟩
/-- every 'or' within has a short side; the other isn't too long -/
def OrL (E V : Nat) : Fm → Prop
  | .add a b => OrL E V a ∧ OrL E V b
  | .mul a b => OrL E V a ∧ OrL E V b
  | .sub a b => ((blen a + 5 ≤ E ∧ (blen b + 5 ≤ E ∨ LiV E (V - 1) b)) ∨ (blen b + 5 ≤ E ∧ (blen a + 5 ≤ E ∨ LiV E (V - 1) a))) ∧ OrL E V a ∧ OrL E V b
  | _ => True
theorem OrL.mono {E V V1 : Nat} (hV : V ≤ V1) (f : Fm) : OrL E V f → OrL E V1 f := by
  induction f with
  | add a b ia ib => exact fun h => ⟨ia h.1, ib h.2⟩
  | mul a b ia ib => exact fun h => ⟨ia h.1, ib h.2⟩
  | sub a b ia ib =>
    exact fun h => ⟨h.1.imp (fun q => ⟨q.1, q.2.imp id (fun r => r.mono (by omega))⟩) (fun q => ⟨q.1, q.2.imp id (fun r => r.mono (by omega))⟩), ia h.2.1, ib h.2.2⟩
  | _ => exact fun _ => trivial
theorem OrL_of {E V : Nat} (f : Fm) : blen f + 5 ≤ E → OrL E V f := by
  induction f with
  | add a b ia ib => exact fun h => by rw [bl_add] at h; exact ⟨ia (by omega), ib (by omega)⟩
  | mul a b ia ib => exact fun h => by rw [bl_mul] at h; exact ⟨ia (by omega), ib (by omega)⟩
  | sub a b ia ib => exact fun h => by rw [bl_sub] at h; exact ⟨Or.inl ⟨by omega, Or.inl (by omega)⟩, ia (by omega), ib (by omega)⟩
  | _ => exact fun _ => trivial
theorem lin_ty {h : Nat} {H : Nat → Fm} {E : Nat} (hE : 210 ≤ E) (hH : ∀ k, k < h → blen (H k) + 5 ≤ E) : ∀ t, isT t → ∀ {G : Nat → Fm} {d p : Nat} {x : Fm}, LbP (fun f => blen f + 5 ≤ 210) t → (∀ k, k < d → blen (G k) + 5 ≤ E) → Wc (fun _ => True) h H t p G d x → LiV E (wg t + 121) x ∧ OrL E (wg t) x := by
  have one : ∀ {f : Fm} {V : Nat}, blen f + 5 ≤ E → 239 ≤ V → LiV E V f := fun h1 h2 => ⟨210, 1, by rw [Nat.mul_comm E]; omega, by omega, by omega⟩
  have up : ∀ {f : Fm}, blen f + 5 ≤ 210 → 210 * (blen f + 5) ≤ E * (blen f + 5) := fun _ => Nat.mul_le_mul_right _ hE
  apply tm_ind
  · intro k G d p x _ hG hw
    have := hG k hw.1
    rw [hw.2.1]
    exact ⟨one this (Nat.le_refl _), OrL_of _ this⟩
  · intro k G d p x _ hG hw
    have := hH k hw.1
    rw [hw.2.1]
    exact ⟨one this (Nat.le_refl _), OrL_of _ this⟩
  · intro o f a ho ha ih G d p x hL hG hw
    rw [LbP_U] at hL
    obtain ⟨-, y, q2, r⟩ := hw
    have hg := wg_ge a ha
    have tf2 := tx_lo f
    rcases r with ⟨rfl, rfl⟩ | ⟨rfl, w, rfl⟩ | ⟨rfl, w, rfl⟩ | ⟨rfl, rfl⟩ | ⟨rfl, rfl⟩ | ⟨rfl, rfl, rfl⟩
    · have hf := hL.1 (Or.inl rfl)
      obtain ⟨⟨la, N, i1, i2, i3⟩, i4⟩ := ih hL.2 (ups_P (P := fun f => blen f + 5 ≤ E) hG (Nat.le_trans hf hE)) q2
      rw [wg_U2]
      refine ⟨⟨la + (blen f + 5), N + 1, ?_, by omega, by omega⟩, OrL_of _ (Nat.le_trans hf hE), OrL.mono (by omega) _ i4⟩
      have := up hf
      rw [bl_add, Nat.mul_add E]
      omega
    · obtain ⟨i1, i2⟩ := ih hL.2 hG q2
      rw [wg_U5]
      exact ⟨(i1.mono (by omega)).le (by rw [bl_mul]; omega), OrL.mono (by omega) _ i2.1⟩
    · obtain ⟨i1, i2⟩ := ih hL.2 hG q2
      rw [wg_U6]
      exact ⟨(i1.mono (by omega)).le (by rw [bl_mul]; omega), OrL.mono (by omega) _ i2.2⟩
    · have hf := hL.1 (Or.inr (Or.inl rfl))
      obtain ⟨⟨la, N, i1, i2, i3⟩, i4⟩ := ih hL.2 hG q2
      rw [wg_U7]
      have h5 : (210 : Nat) * (blen f + 4) ≤ E * (blen f + 4) := Nat.mul_le_mul_right _ hE
      refine ⟨⟨la + (blen f + 4), N + 1, ?_, by omega, by omega⟩, Or.inr ⟨Nat.le_trans hf hE, Or.inr ⟨la, N, i1, i2, by omega⟩⟩, OrL.mono (by omega) _ i4, OrL_of _ (Nat.le_trans hf hE)⟩
      rw [bl_sub, Nat.mul_add E]
      omega
    · have hf := hL.1 (Or.inr (Or.inr (Or.inl rfl)))
      obtain ⟨⟨la, N, i1, i2, i3⟩, i4⟩ := ih hL.2 hG q2
      rw [wg_U8]
      have h5 : (210 : Nat) * (blen f + 4) ≤ E * (blen f + 4) := Nat.mul_le_mul_right _ hE
      refine ⟨⟨la + (blen f + 4), N + 1, ?_, by omega, by omega⟩, Or.inl ⟨Nat.le_trans hf hE, Or.inr ⟨la, N, i1, i2, by omega⟩⟩, OrL_of _ (Nat.le_trans hf hE), OrL.mono (by omega) _ i4⟩
      rw [bl_sub, Nat.mul_add E]
      omega
    · have hf := hL.1 (Or.inr (Or.inr (Or.inr rfl)))
      rw [wg_UX]
      exact ⟨one (Nat.le_trans hf hE) (by omega), OrL_of _ (Nat.le_trans hf hE)⟩
  · intro o a b ho ha hb ia ib G d p x hL hG hw
    rw [LbP_B ho] at hL
    obtain ⟨-, y, z, q2, q3, r⟩ := hw
    obtain ⟨i1, i2⟩ := ia hL.1 hG q2
    obtain ⟨j1, j2⟩ := ib hL.2 hG q3
    rcases r with ⟨rfl, rfl⟩ | ⟨rfl, rfl⟩
    · rw [wg_B3]
      exact ⟨(i1.mono (by omega)).le (by rw [bl_add]; omega), OrL.mono (by omega) _ i2.2⟩
    · rw [wg_B4]
      obtain ⟨la, N, a1, a2, a3⟩ := i1
      obtain ⟨lb, N2, b1, b2, b3⟩ := j1
      refine ⟨⟨la + lb, N + N2, ?_, by omega, by omega⟩, OrL.mono (by omega) _ i2, OrL.mono (by omega) _ j2⟩
      rw [bl_mul, Nat.mul_add E]
      omega
  · intro m a b hm ha hb im ia ib G d p x hL hG hw
    rw [LbP_C] at hL
    obtain ⟨-, y, z, q2, q3, q4⟩ := hw
    obtain ⟨i1, i2, i3, i4⟩ := im hL.1 hG q2
    rw [wg_C]
    rcases i2 with i2 | i2
    · obtain ⟨j1, j2⟩ := ia hL.2.1 (ups_P (P := fun f => blen f + 5 ≤ E) hG i2.1) q3
      exact ⟨j1.mono (by omega), OrL.mono (by omega) _ j2⟩
    · obtain ⟨j1, j2⟩ := ib hL.2.2 (ups_P (P := fun f => blen f + 5 ≤ E) hG i2.1) q4
      exact ⟨j1.mono (by omega), OrL.mono (by omega) _ j2⟩
