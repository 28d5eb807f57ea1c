/-! THE DECIDER in the class: the parts taken -/
section TP4
variable {M M0 M1 : Mem} {m n : Nat} {kd lf rt : Nat → Nat}
theorem c_bit {i : Nat} (hi : i < 40) (n : Nat) (M : Mem) : f_X0_bit n (nI i) M = some (bt i, M) := by
  show T_X0_bit_0 (fun v M => some (v, M)) none n (nI i) M = _
  unfold T_X0_bit_0
  have h0 : (nI i < (0 : Int32)) = False := nI_lt0 (by omega)
  have h4 : ((40 : Int32) ≤ nI i) = False := eq_false (by rw [show (40 : Int32) = nI 40 from rfl, nI_le_ (by omega) (by omega)]; omega)
  simp only [h0, h4, ↓reduceIte]
  rfl
theorem c_findAsked (hW : Wd M) (hD : DcP M m kd lf rt) (h11 : ∀ i, i < m → kd i ≤ 11) (hlt : ∀ i, i < m → 9 ≤ kd i → lf i < i ∧ rt i < i) (hm : 0 < m) (w : Int64) (n : Nat) : ∃ a2 g2, f_X0_findAsked n 80 w M = some (a2, M) ∧ SbS (M.2.2.2.1 80 8) a2 ∧ SbS w g2 ∧ ∀ i, i < m → AgC kd lf rt a2 g2 i := by
  have h40 := hD.2.1
  obtain ⟨a2, g2, y, s1, s2, c2⟩ := fa_loop (n := n) hW hD h11 hlt m (Nat.le_refl _) (M.2.2.2.1 80 8) w (fun i' h1 h2 => by omega)
  refine ⟨a2, g2, ?_, s1, s2, c2⟩
  refine (ge_X0_findAsked_0 n 80 w M).trans ?_
  unfold T_X0_findAsked_0
  simp only [↓gd_pos (fO80 hW), hD.1, dnI_s hm (show m < 1000 by omega)]
  exact y
theorem AgC.pt {a g : Int64} (h1 : ∀ i, i < m → kd i ≤ 11) (h2 : ∀ i, i < m → 9 ≤ kd i → lf i < i ∧ rt i < i) (h3 : ∀ i j, i < m → j < m → kd i = kd j → kd i < 9 → i = j) (h : ∀ i, i < m → AgC kd lf rt a g i) : PtOk m kd lf rt (St a) (St g) := ⟨h1, h2, h3, fun i hi e => (h i hi).1 e, fun i hi e => (h i hi).2 e⟩
end TP4
