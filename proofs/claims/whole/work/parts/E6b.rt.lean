/-! HOW LONG the type of a told text is -/
theorem bl_add (a b : Fm) : blen (.add a b) = 5 + blen a + blen b := rfl
theorem bl_mul (a b : Fm) : blen (.mul a b) = 5 + blen a + blen b := rfl
theorem bl_sub (a b : Fm) : blen (.sub a b) = 4 + blen a + blen b := rfl
def blB (B : Nat) (f : Fm) : Prop := blen f ≤ B
theorem blB_pt (B : Nat) : PtC (blB B) := fun a b => by
  unfold blB
  rw [bl_add, bl_mul, bl_sub]
  exact ⟨fun q => ⟨by omega, by omega⟩, fun q => ⟨by omega, by omega⟩, fun q => ⟨by omega, by omega⟩⟩
/-- every 'or' within has a short side -/
def OrS (E : Nat) : Fm → Prop
  | .add a b => OrS E a ∧ OrS E b
  | .mul a b => OrS E a ∧ OrS E b
  | .sub a b => (blen a + 5 ≤ E ∨ blen b + 5 ≤ E) ∧ OrS E a ∧ OrS E b
  | _ => True
theorem OrS_of {E : Nat} (f : Fm) : blen f + 5 ≤ E → OrS E f := by
  induction f with
  | add a b ia ib => exact fun h => by rw [bl_add] at h; exact ⟨ia (by omega), ib (by omega)⟩
  | mul a b ia ib => exact fun h => by rw [bl_mul] at h; exact ⟨ia (by omega), ib (by omega)⟩
  | sub a b ia ib => exact fun h => by rw [bl_sub] at h; exact ⟨Or.inl (by omega), ia (by omega), ib (by omega)⟩
  | _ => exact fun _ => trivial
theorem root_ty {h : Nat} {H : Nat → Fm} {E : Nat} (hH : ∀ k, k < h → blen (H k) + 5 ≤ E) : ∀ t, isT t → ∀ {G : Nat → Fm} {d p : Nat} {x : Fm}, LbP (fun f => blen f + 5 ≤ E) t → (∀ k, k < d → blen (G k) + 5 ≤ E) → Wc (fun _ => True) h H t p G d x → blen x + 5 ≤ E * sz t ∧ OrS E x := by
  apply tm_ind
  · intro k G d p x _ hG hw
    have := hG k hw.1
    rw [hw.2.1, sz_L, Nat.mul_one]
    exact ⟨this, OrS_of _ this⟩
  · intro k G d p x _ hG hw
    have := hH k hw.1
    rw [hw.2.1, sz_H, Nat.mul_one]
    exact ⟨this, OrS_of _ this⟩
  · intro o f a ho ha ih G d p x hL hG hw
    rw [LbP_U] at hL
    rw [sz_U, Nat.mul_add, Nat.mul_one]
    obtain ⟨-, y, q2, r⟩ := hw
    have hE : ∀ {n : Nat}, n ≤ E * sz a → n ≤ E * sz a + E := fun q => by omega
    rcases r with ⟨rfl, rfl⟩ | ⟨rfl, w, rfl⟩ | ⟨rfl, w, rfl⟩ | ⟨rfl, rfl⟩ | ⟨rfl, rfl⟩ | ⟨rfl, rfl, rfl⟩
    · have hf := hL.1 (Or.inl rfl)
      obtain ⟨i1, i2⟩ := ih hL.2 (ups_P (P := fun f => blen f + 5 ≤ E) hG hf) q2
      rw [bl_add]
      exact ⟨by omega, OrS_of _ hf, i2⟩
    · obtain ⟨i1, i2⟩ := ih hL.2 hG q2
      rw [bl_mul] at i1
      exact ⟨by omega, i2.1⟩
    · obtain ⟨i1, i2⟩ := ih hL.2 hG q2
      rw [bl_mul] at i1
      exact ⟨by omega, i2.2⟩
    · have hf := hL.1 (Or.inr (Or.inl rfl))
      obtain ⟨i1, i2⟩ := ih hL.2 hG q2
      rw [bl_sub]
      exact ⟨by omega, Or.inr hf, i2, OrS_of _ hf⟩
    · have hf := hL.1 (Or.inr (Or.inr (Or.inl rfl)))
      obtain ⟨i1, i2⟩ := ih hL.2 hG q2
      rw [bl_sub]
      exact ⟨by omega, Or.inl hf, OrS_of _ hf, i2⟩
    · have hf := hL.1 (Or.inr (Or.inr (Or.inr rfl)))
      exact ⟨by omega, OrS_of _ hf⟩
  · intro o a b ho ha hb ia ib G d p x hL hG hw
    rw [LbP_B ho] at hL
    rw [sz_B, Nat.mul_add, Nat.mul_add, Nat.mul_one]
    obtain ⟨-, y, z, q2, q3, r⟩ := hw
    obtain ⟨i1, i2⟩ := ia hL.1 hG q2
    obtain ⟨j1, j2⟩ := ib hL.2 hG q3
    rcases r with ⟨rfl, rfl⟩ | ⟨rfl, rfl⟩
    · rw [bl_add] at i1
      exact ⟨by omega, i2.2⟩
    · rw [bl_mul]
      exact ⟨by omega, i2, j2⟩
  · intro m a b hm ha hb im ia ib G d p x hL hG hw
    rw [LbP_C] at hL
    rw [sz_C, Nat.mul_add, Nat.mul_add, Nat.mul_add, Nat.mul_one]
    obtain ⟨-, y, z, q2, q3, q4⟩ := hw
    obtain ⟨i1, i2, i3, i4⟩ := im hL.1 hG q2
    rcases i2 with i2 | i2
    · obtain ⟨j1, j2⟩ := ia hL.2.1 (ups_P (P := fun f => blen f + 5 ≤ E) hG i2) q3
      exact ⟨by omega, j2⟩
    · obtain ⟨j1, j2⟩ := ib hL.2.2 (ups_P (P := fun f => blen f + 5 ≤ E) hG i2) q4
      exact ⟨by omega, j2⟩
/-- a formula of few words is short -/
def lvs : Fm → Nat
  | .add a b => lvs a + lvs b
  | .mul a b => lvs a + lvs b
  | .sub a b => lvs a + lvs b
  | _ => 1
theorem lvs_w (f : Fm) : 2 * lvs f = wdf f + 1 := by
  induction f with
  | add a b ia ib =>
    show 2 * (lvs a + lvs b) = 1 + wdf a + wdf b + 1
    omega
  | mul a b ia ib =>
    show 2 * (lvs a + lvs b) = 1 + wdf a + wdf b + 1
    omega
  | sub a b ia ib =>
    show 2 * (lvs a + lvs b) = 1 + wdf a + wdf b + 1
    omega
  | _ => rfl
